/-! ===== lot: the class's votes ===== -/
section LOT3
variable {ω : WT} {l : Launch} {d : Nat} {a : Ab} {σ : St}
theorem nJ_z {a b : Nat} (h : nJ a = 0) : nJ (a * b) = 0 := by rw [← nJ_mul, h, Int64.zero_mul]
abbrev wgt (t : Tn) (q S : Nat) : Nat := WC t q (cb S 8) * (840 / chK (tnp t) (cb S 8))
theorem vs_loop {κ : KT} {t : Tn} {q : Nat} {post : Option Value → St → Prop} (hWf : Wf ω) (hd : 4 ≤ d) (hT : TC t σ) (hO : TO t) (h2 : 2 ≤ tnp t) (hme : σ.1 897 = nI (tme t)) (hla : σ.1 898 = nI (tla t)) (h32 : ∀ j, j < 9 → σ.2.1 32 j = nI (chK (tnp t) j)) (hW : ∀ j, j < 9 → σ.2.2.2 33 j = nJ (WC t q j))
    (K : Cm ω κ l yX3_voteOfAllSets cX3_voteOfAllSets 8 d (some .long) post)
    (fin : ∀ σ', Eqx [899, 900, 901] [34] σ σ' → (∀ j, j < 9 → σ'.2.2.2 34 j = nJ (WC t (q + 1) j)) → post (some (.long (nJ (wonC t q)))) (pG σ' 33 (va_cpy (σ'.2.2.2 34) (σ'.2.2.2 33) 0 0 9))) :
    ∀ j i σq, i + j = 2 ^ tnp t → Eqx [899, 900, 901] [34] σ σq → (∀ k, k < 9 → σq.2.2.2 34 k = nJ (sumN (fun S => if seL t q S = k then wgt t q S else 0) i)) → V ω κ 13 [(0, .ref (ω.2.2.1 31)), (1, .int (nI (bs (fun x => tws t x (tag t q)) (tnp t)))), (2, .long (nJ (sumN (fun S => if ocL t q S = 1 then wgt t q S else 0) i))), (4, .int (nI i))] [] σq
  | 0, i, σq, h, hE, h34 => by
    obtain rfl : i = 2 ^ tnp t := by omega
    have hnp := hO.1
    have hp8 := p2_le8 hnp
    have hp4 := p2_ge h2
    have hlt : ((1 : Int32) <<< (σq.1 640 &&& 31)) - 1 < nI (2 ^ tnp t) := by
      rw [hE.1 640 (by decide), hT.1, nI_all hnp]
      exact (nI_ltI (by omega) (by omega)).mpr (by omega)
    exact R_X3_voteOfAllSets_13 K (by omega) (fun _ => by decide) (fun _ => by decide) (fun _ => by decide) (fun _ => by decide) (fun _ => by decide) (fun _ => fin σq hE (fun k hk => by rw [h34 k hk, WC])) (fun z_ => absurd hlt z_) (fun z_ => absurd hlt z_) (fun z_ => absurd hlt z_) (fun z_ => absurd hlt z_) (fun z_ => absurd hlt z_) (fun z_ => absurd hlt z_) (fun z_ => absurd hlt z_) (fun z_ => absurd hlt z_)
  | j + 1, i, σq, h, hE, h34 => by
    have hnp := hO.1
    have hp8 := p2_le8 hnp
    have hp4 := p2_ge h2
    have hge : ¬ ((1 : Int32) <<< (σq.1 640 &&& 31)) - 1 < nI i := by
      rw [hE.1 640 (by decide), hT.1, nI_all hnp]
      exact fun z => absurd ((nI_ltI (by omega) (by omega)).mp z) (by omega)
    have hTq : TC t σq := hT.keep hE (by decide) (by decide)
    have hcb := (cb_full _ (by omega : tnp t < 9) i (by omega) (by omega)).2
    obtain ⟨c1, c2, c3⟩ := ch_840 _ (by omega : tnp t < 9) (cb i 8) (by omega) hcb
    have e33 : σq.2.2.2 33 (cb i 8) = nJ (WC t q (cb i 8)) := by rw [hE.2.2.2 33 (by decide)]; exact hW _ (by omega)
    have e32 : σq.2.1 32 (cb i 8) = nI (chK (tnp t) (cb i 8)) := by rw [hE.2.1 32 (by decide)]; exact h32 _ (by omega)
    have ih := vs_loop hWf hd hT hO h2 hme hla h32 hW K fin j (i + 1)
    have K2 := R_X3_voteOfAllSets_13 (σ := σq) (x1 := nI (bs (fun x => tws t x (tag t q)) (tnp t))) (x2 := nJ (sumN (fun S => if ocL t q S = 1 then wgt t q S else 0) i)) (x4 := nI i) K (by omega) (fun z_ => absurd z_ hge) (fun z_ => absurd z_ hge) (fun z_ => absurd z_ hge) (fun z_ => absurd z_ hge) (fun z_ => absurd z_ hge) (fun z_ => absurd z_ hge)
    rw [F_bc_n i (by omega), nI_clamp (by omega), e33, e32] at K2
    have n0 : ¬ nI (chK (tnp t) (cb i 8)) = 0 := fun z => c2 ((nI_eq (b := 0) (by omega) (by omega)).mp z)
    refine K2 (fun _ => vp_in_nI (by omega) (by omega)) (fun _ z => ?_) (fun _ _ => vp_in_nI (by omega) (by omega)) (fun _ _ z_ => absurd z_ n0) (fun _ _ _ => vp_in_nI (by omega) (by omega)) (fun _ _ _ => vp_in_nI (by omega) (by omega)) (fun _ _ z_ => z_) (fun _ _ _ => ?_)
    · have z0 : nJ (wgt t q i) = 0 := nJ_z ((lg_cmp_eq _ _).mp z)
      have e : ∀ (P : Nat → Prop) [DecidablePred P], nJ (sumN (fun S => if P S then wgt t q S else 0) (i + 1)) = nJ (sumN (fun S => if P S then wgt t q S else 0) i) := by
        intro P _
        rw [sumN, ← nJ_add]
        by_cases zz : P i
        · rw [if_pos zz, z0, Int64.add_zero]
        · rw [if_neg zz]
          exact Int64.add_zero _
      have ih2 := ih σq (by omega) hE (fun k hk => by rw [e (fun S => seL t q S = k)]; exact h34 k hk)
      rw [e (fun S => ocL t q S = 1)] at ih2
      rw [nI_1]
      exact ih2
    · have hst := m_step (l := l) (d := d - 1) (t := t) (set := i) (last := 0) (me := tme t) (la := tla t) (wz := bs (fun x => tws t x (tag t q)) (tnp t)) (fz := 0) hWf (by omega) hTq hO ((hE.1 897 (by decide)).trans hme) hO.2.2.1 ((hE.1 898 (by decide)).trans hla) hO.2.2.2.1 (by omega) (by omega)
      have est : stepS (tnp t) (tme t) (tla t) (tkd t) (bs (fun x => tws t x (tag t q)) (tnp t)).testBit (Nat.testBit 0) (i, 0) = stepS (tnp t) (tme t) (tla t) (tkd t) (fun x => tws t x (tag t q)) (fun _ => false) (i, 0) := by
        refine stepS_cong (fun x hx => ?_) (fun x hx => Nat.zero_testBit x)
        rw [bs_bit]; simp [hx]
      rw [Nat.zero_mul, Nat.zero_add, est] at hst
      have ew : nJ (WC t q (cb i 8)) * ((840 : Int32) / nI (chK (tnp t) (cb i 8))).toInt64 = nJ (wgt t q i) := by
        rw [show (840 : Int32) = nI 840 from rfl, pk_div (by omega) (by omega) (by omega), nJ_of (Nat.lt_of_le_of_lt (Nat.div_le_self _ _) (by omega)), nJ_mul]
      rw [ew]
      refine C_X3_voteOfAllSets_84 K (by omega) hst (go_I ?_)
      have hse := seL_le (q := q) hO h2 (show i < 2 ^ tnp t by omega)
      have hE1 : Eqx [899, 900, 901] [34] σ (pS (pS (pS σq 899 (nI (stepS (tnp t) (tme t) (tla t) (tkd t) (fun x => tws t x (tag t q)) (fun _ => false) (i, 0)).1)) 900 (ocL t q i)) 901 (nI (seL t q i))) := ((hE.pS (by simp) _).pS (by simp) _).pS (by simp) _
      have K3 := R_X3_voteOfAllSets_87 (σ := pS (pS (pS σq 899 (nI (stepS (tnp t) (tme t) (tla t) (tkd t) (fun x => tws t x (tag t q)) (fun _ => false) (i, 0)).1)) 900 (ocL t q i)) 901 (nI (seL t q i))) (x1 := nI (bs (fun x => tws t x (tag t q)) (tnp t))) (x4 := nI i) (x2 := nJ (sumN (fun S => if ocL t q S = 1 then wgt t q S else 0) i)) (x6 := nJ (wgt t q i)) (s0 := nI ((stepS (tnp t) (tme t) (tla t) (tkd t) (fun x => tws t x (tag t q)) (fun _ => false) (i, 0)).2.2.2.2 * 256 + (stepS (tnp t) (tme t) (tla t) (tkd t) (fun x => tws t x (tag t q)) (fun _ => false) (i, 0)).2.2.2.1)) K
      have r1 : (pS (pS (pS σq 899 (nI (stepS (tnp t) (tme t) (tla t) (tkd t) (fun x => tws t x (tag t q)) (fun _ => false) (i, 0)).1)) 900 (ocL t q i)) 901 (nI (seL t q i))).1 901 = nI (seL t q i) := rfl
      have r0 : (pS (pS (pS σq 899 (nI (stepS (tnp t) (tme t) (tla t) (tkd t) (fun x => tws t x (tag t q)) (fun _ => false) (i, 0)).1)) 900 (ocL t q i)) 901 (nI (seL t q i))).1 900 = ocL t q i := rfl
      have r4 : (pS (pS (pS σq 899 (nI (stepS (tnp t) (tme t) (tla t) (tkd t) (fun x => tws t x (tag t q)) (fun _ => false) (i, 0)).1)) 900 (ocL t q i)) 901 (nI (seL t q i))).2.2.2 34 (seL t q i) = σq.2.2.2 34 (seL t q i) := rfl
      rw [r1, r0, nI_clamp (by omega), r4, h34 _ (by omega), nI_1, nJ_add] at K3
      refine K3 (vp_in_nI (by omega) (by omega)) (vp_in_nI (by omega) (by omega)) ?_
      have ih2 := ih (pM (pS (pS (pS σq 899 (nI (stepS (tnp t) (tme t) (tla t) (tkd t) (fun x => tws t x (tag t q)) (fun _ => false) (i, 0)).1)) 900 (ocL t q i)) 901 (nI (seL t q i))) 34 (seL t q i) (nJ (sumN (fun S => if seL t q S = seL t q i then wgt t q S else 0) i + wgt t q i))) (by omega) (hE1.pM (by simp) _ _) (fun k hk => by
        show vp_updL (σq.2.2.2 34) (seL t q i) _ k = _
        rw [sumN]
        by_cases z : k = seL t q i
        · subst z
          rw [uL_s, if_pos rfl]
        · rw [uL_n z, if_neg (fun y => z y.symm), Nat.add_zero]
          exact h34 k hk)
      have ewon : nJ (sumN (fun S => if ocL t q S = 1 then wgt t q S else 0) i) + (if ocL t q i = 1 then nJ (wgt t q i) else 0) = nJ (sumN (fun S => if ocL t q S = 1 then wgt t q S else 0) (i + 1)) := by
        rw [sumN, ← nJ_add]
        by_cases z : ocL t q i = 1
        · rw [if_pos z, if_pos z]
        · rw [if_neg z, if_neg z]
          rfl
      rw [ewon]
      exact ih2
theorem m_voteOfAllSets {t : Tn} {q : Nat} (hWf : Wf ω) (hd : 4 ≤ d) (hT : TC t σ) (hO : TO t) (h2 : 2 ≤ tnp t) (hme : σ.1 897 = nI (tme t)) (hla : σ.1 898 = nI (tla t)) (h32 : ∀ j, j < 9 → σ.2.1 32 j = nI (chK (tnp t) j)) (hW : ∀ j, j < 9 → σ.2.2.2 33 j = nJ (WC t q j)) :
    Sp ω l yX3_voteOfAllSets cX3_voteOfAllSets 8 (some .long) d [.ref (ω.2.2.1 31), .int (nI (bs (fun x => tws t x (tag t q)) (tnp t)))] σ (fun v σ' => v = some (.long (nJ (wonC t q))) ∧ (∀ j, j < 9 → σ'.2.2.2 33 j = nJ (WC t (q + 1) j)) ∧ Eqx [899, 900, 901] [33, 34] σ σ') := by
  refine Sp.of (by decide) (Nat.le_of_ble_eq_true rfl) hWf (fun κ K => R_X3_voteOfAllSets_0 K (by omega) ?_)
  have hE0 : Eqx [] [34] σ (pG σ 34 (fillF (σ.2.2.2 34) (0 : Int64) 9)) := Eqx.rf.pG (by simp) _
  refine vs_loop (σ := pG σ 34 (fillF (σ.2.2.2 34) (0 : Int64) 9)) hWf hd (hT.keep hE0 (by decide) (by decide)) hO h2 hme hla h32 hW K (fun σ' hE h => ⟨rfl, fun j hj => ?_, ((hE0.mono (by simp) (by simp)).tr (hE.mono (by simp) (by simp))).pG (by simp) _⟩) (2 ^ tnp t) 0 _ (by omega) Eqx.rf (fun k hk => if_pos hk)
  show va_cpy (σ'.2.2.2 34) (σ'.2.2.2 33) 0 0 9 j = _
  unfold va_cpy
  rw [if_pos ⟨by omega, by omega⟩, Nat.zero_add, Nat.sub_zero]
  exact h j hj
theorem p840 {q : Nat} (h : q ≤ 6) : 840 ^ q < 2 ^ 63 := Nat.lt_of_le_of_lt (Nat.pow_le_pow_right (by omega) h) (by decide)
theorem da_loop {κ : KT} {t : Tn} {post : Option Value → St → Prop} (hWf : Wf ω) (hd : 5 ≤ d) (hT : TC t σ) (hO : TO t) (h2 : 2 ≤ tnp t) (hme : σ.1 897 = nI (tme t)) (hla : σ.1 898 = nI (tla t)) (h32 : ∀ j, j < 9 → σ.2.1 32 j = nI (chK (tnp t) j))
    (K : Cm ω κ l yX3_drawAll cX3_drawAll 7 d none post)
    (fin : ∀ σ', Eqx [899, 900, 901] [33, 34] σ σ' → V ω κ 81 [(0, .ref (ω.2.2.1 31)), (1, .long (nJ (840 ^ tit t))), (3, .long (nJ (wonC t (tit t - 1))))] [.long (nJ (wonC t (tit t - 1))), .long (nJ (840 ^ tit t))] σ') :
    ∀ j q x3 σq, q + j = tit t → Eqx [899, 900, 901] [33, 34] σ σq → (∀ k, k < 9 → σq.2.2.2 33 k = nJ (WC t q k)) → (q ≠ 0 → x3 = nJ (wonC t (q - 1))) → (j = 0 → q ≠ 0) → V ω κ 32 [(0, .ref (ω.2.2.1 31)), (1, .long (nJ (840 ^ q))), (3, .long x3), (5, .int (nI q))] [] σq
  | 0, q, x3, σq, h, hE, h33, h3, h0 => by
    obtain rfl : q = tit t := by omega
    have hit := hO.2.2.2.2.1
    have hle : σq.1 644 ≤ nI (tit t) := by rw [hE.1 644 (by decide), hT.2.2.2.2.1]; exact nI_le (Nat.le_refl _) (by omega)
    rw [h3 (h0 rfl)]
    exact R_X3_drawAll_32 K (fun _ => fin σq hE) (fun z_ => absurd hle z_) (fun z_ => absurd hle z_) (fun z_ => absurd hle z_)
  | j + 1, q, x3, σq, h, hE, h33, h3, h0 => by
    have hit := hO.2.2.2.2.1
    have hnm := hO.2.1
    have hTq : TC t σq := hT.keep hE (by decide) (by decide)
    have hge : ¬ σq.1 644 ≤ nI q := by
      rw [hTq.2.2.2.2.1]
      exact fun z => absurd ((nI_leI (by omega) (by omega)).mp z) (by omega)
    have hag := hO.2.2.2.2.2.2.1 q (by omega)
    refine R_X3_drawAll_32 K (fun z_ => absurd z_ hge) (fun _ => vp_in_nI (by omega) (by omega)) (fun _ => ?_) (fun _ => ?_)
    · rw [nI_clamp (by omega), hTq.2.2.2.2.2.2.2.2.2 q (by omega)]
      exact vp_in_nI (by omega) (by omega)
    · rw [nI_clamp (by omega), hTq.2.2.2.2.2.2.2.2.2 q (by omega), nI_clamp (by omega), hTq.2.2.2.2.2.2.2.2.1 _ hag]
      refine C_X3_drawAll_63 K (by omega) (m_voteOfAllSets hWf (by omega) hTq hO h2 ((hE.1 897 (by decide)).trans hme) ((hE.1 898 (by decide)).trans hla) (fun k hk => by rw [hE.2.1 32 (by decide)]; exact h32 k hk) h33) (fun v σ' hp => ?_)
      obtain ⟨rfl, q1, q2⟩ := hp
      refine R_X3_drawAll_66 K ?_
      rw [nI_1, show (840 : Int64) = nJ 840 from rfl, nJ_mul, ← Nat.pow_succ]
      exact da_loop hWf hd hT hO h2 hme hla h32 K fin j (q + 1) _ σ' (by omega) (hE.tr q2) q1 (fun _ => rfl) (fun _ => by omega)
def lotU (t : Tn) : Nat := wonC t (tit t - 1) / Nat.gcd (wonC t (tit t - 1)) (840 ^ tit t)
def lotD (t : Tn) : Nat := 840 ^ tit t / Nat.gcd (wonC t (tit t - 1)) (840 ^ tit t)
theorem TO.it1 {t : Tn} (hO : TO t) (h2 : 2 ≤ tnp t) : 1 ≤ tit t := by
  rcases hO.2.2.2.2.2.2.2.2 with h | h
  · omega
  · exact h.2.2
theorem m_drawAll {t : Tn} (hWf : Wf ω) (hd : 5 ≤ d) (hT : TC t σ) (hO : TO t) (h2 : 2 ≤ tnp t) (hme : σ.1 897 = nI (tme t)) (hla : σ.1 898 = nI (tla t)) : Sp ω l yX3_drawAll cX3_drawAll 7 none d [.ref (ω.2.2.1 31)] σ (fun v σ' => v = none ∧ σ'.2.2.1 1989 = nJ (lotU t) ∧ σ'.2.2.1 1990 = nJ (lotD t) ∧ Eqx [899, 900, 901, 1989, 1990] [32, 33, 34] σ σ') := by
  refine Sp.of (by decide) (Nat.le_of_ble_eq_true rfl) hWf (fun κ K => R_X3_drawAll_0 K ?_)
  have hnp := hO.1
  have hit := hO.2.2.2.2.1
  have hit1 := hO.it1 h2
  refine C_X3_drawAll_1 K (by omega) (m_countSets hWf (by omega) hnp hT.1) (fun v σ1 hp => ?_)
  obtain ⟨rfl, h32, hE1⟩ := hp
  have e640 : σ1.1 640 = nI (tnp t) := (hE1.1 640 (by decide)).trans hT.1
  have K2 := R_X3_drawAll_4 (σ := σ1) K (by omega)
  rw [e640, nI_clamp (by omega)] at K2
  refine K2 (vp_in_nI (by omega) (by omega)) ?_
  have hE2 : Eqx [] [32, 33] σ (pM (pG σ1 33 (fillF (σ1.2.2.2 33) (0 : Int64) 9)) 33 (tnp t) 1) := ((hE1.mono (by simp) (by simp)).pG (by simp) _).pM (by simp) _ _
  have hg : 0 < Nat.gcd (wonC t (tit t - 1)) (840 ^ tit t) := Nat.gcd_pos_of_pos_right _ (Nat.pow_pos (by omega))
  have hw8 : 840 ^ tit t < 2 ^ 63 := p840 hit
  have hwl : wonC t (tit t - 1) ≤ 840 ^ tit t := by
    have := wonC_le hO h2 (tit t - 1)
    rw [show tit t - 1 + 1 = tit t by omega] at this
    exact this
  refine da_loop (σ := pM (pG σ1 33 (fillF (σ1.2.2.2 33) (0 : Int64) 9)) 33 (tnp t) 1) hWf hd (hT.keep hE2 (by decide) (by decide)) hO h2 ((hE2.1 897 (by decide)).trans hme) ((hE2.1 898 (by decide)).trans hla) h32 K (fun σ' hE => ?_) (tit t) 0 0 _ (by omega) Eqx.rf (fun k hk => ?_) (fun z => absurd rfl z) (fun z => by omega)
  · refine C_X3_drawAll_81 K (by omega) (m_commonDivisor hWf hw8 (by omega)) (go_J ?_)
    have hle : Nat.gcd (840 ^ tit t) (wonC t (tit t - 1)) ≤ 840 ^ tit t := Nat.gcd_le_left _ (Nat.pow_pos (by omega))
    rw [Nat.gcd_comm] at hle ⊢
    generalize hgg : Nat.gcd (wonC t (tit t - 1)) (840 ^ tit t) = g at *
    have n0 : ¬ lg_cmp (nJ g) 0 = 0 := fun z => absurd ((nJ_c0 (by omega)).mp z) (by omega)
    have n1 : ¬ nJ g = 0 := fun z => n0 (by rw [z]; decide)
    refine R_X3_drawAll_84 K (fun _ => n1) (fun _ => n1) ?_
    rw [if_neg n0, if_neg n0, nJ_div (by omega) hg (by omega), nJ_div hw8 hg (by omega)]
    refine ⟨rfl, ?_, ?_, (((hE2.mono (by simp) (by simp)).tr (hE.mono (by simp) (by simp))).pL (by simp) _).pL (by simp) _⟩
    · unfold lotU
      rw [hgg]
      rfl
    · unfold lotD
      rw [hgg]
      rfl
  · show vp_updL (fillF (σ1.2.2.2 33) (0 : Int64) 9) (tnp t) 1 k = nJ (WC t 0 k)
    rw [WC]
    by_cases z : k = tnp t
    · subst z
      rw [uL_s, if_pos rfl]
      rfl
    · rw [uL_n z, if_neg z]
      exact if_pos hk
def o_lot (a : Ab) (w : Int32) : Int64 := match ix w 2 with
  | none => -9223372036854775808
  | some j => if tnp (att a) = 0 then -9223372036854775808 else if j = 0 then nJ (lotU (att a)) else nJ (lotD (att a))
theorem c_lot {w : Int32} (hWf : Wf ω) (hd : 6 ≤ d) (hA : AO a) (hR : RC a σ) : Sp ω l yX8_lot cX8_lot 2 (some .long) d [.ref (ω.2.2.1 0), .int w] σ (PCJ (o_lot a w) a σ) := by
  refine Sp.of (by decide) (Nat.le_of_ble_eq_true rfl) hWf (fun κ K => ?_)
  have hnp := hA.1.1
  rcases ix_cases w 2 (by omega) with ⟨e, z⟩ | ⟨j, hj, rfl, e⟩
  · have ho : o_lot a w = -9223372036854775808 := by simp only [o_lot, e]
    rw [ho] at K
    have no : ¬ w < 0 → ¬ 1 < w → False := fun h1 h2 => by
      rcases z with z | z
      · exact h1 z
      · exact h2 (Int32.lt_of_lt_of_le (by decide) z)
    exact R_X8_lot_0 K (by omega) (fun _ => ⟨rfl, hR, EC.rf⟩) (fun _ _ => ⟨rfl, hR, EC.rf⟩) (fun h1 h2 => (no h1 h2).elim) (fun _ _ _ => ⟨rfl, hR, EC.rf⟩)
  · have n0 : ¬ nI j < 0 := nI_pos (by omega)
    have n1 : ¬ 1 < nI j := fun z => absurd ((nI_ltI (a := 1) (by omega) (by omega)).mp z) (by omega)
    refine R_X8_lot_0 K (by omega) (fun z_ => absurd z_ n0) (fun _ z_ => absurd z_ n1) (fun _ _ h0 => ?_) (fun _ _ h0 => ?_)
    · rw [hR.1.1] at h0
      have h1 := tw1 h0
      have h2 := hA.1.two h1
      have ho : o_lot a (nI j) = if j = 0 then nJ (lotU (att a)) else nJ (lotD (att a)) := by
        simp only [o_lot, e, if_neg h1]
      rw [ho] at K
      rw [hR.1.2.2.1, hR.1.2.2.2.1]
      have hE1 : Eqx [897, 898] [] σ (pS (pS σ 897 (nI (tme (att a)))) 898 (nI (tla (att a)))) := (Eqx.rf.pS (by simp) _).pS (by simp) _
      refine C_X8_lot_34 K (by omega) (m_drawAll hWf (by omega) (hR.1.keep hE1 (by decide) (by decide)) hA.1 h2 rfl rfl) (fun v σ' hp => ?_)
      obtain ⟨rfl, q1, q2, hE⟩ := hp
      refine R_X8_lot_37 K ?_
      have hE2 : Eqx [897, 898, 899, 900, 901, 1989, 1990] [32, 33, 34] σ σ' := (hE1.mono (by simp) (by simp)).tr (hE.mono (by simp) (by simp))
      rw [q1, q2]
      refine ⟨?_, hR.keep hE2 (by decide) (by decide), EC.of hE2 (by decide) (by decide)⟩
      by_cases z : j = 0
      · subst z
        rw [if_pos rfl, if_pos (by decide)]
      · have hz : ¬ nI j = (0 : Int32) := fun y => z ((nI_eq (b := 0) (by omega) (by omega)).mp y)
        rw [if_neg z, if_neg hz]
    · rw [hR.1.1] at h0
      have h1 := tw0 (by omega) h0
      have ho : o_lot a (nI j) = -9223372036854775808 := by simp only [o_lot, e, if_pos h1]
      rw [ho]
      exact ⟨rfl, hR, EC.rf⟩
end LOT3
