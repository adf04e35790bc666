/-! ===== ever, often: runs without end ===== -/
section RING
variable {ω : WT} {l : Launch} {d : Nat} {a : Ab} {σ : St}
/-- more places than values: two are alike -/
theorem pigeon : ∀ {m n : Nat} {f : Nat → Nat}, (∀ i, i < n → f i < m) → (∀ i k, i < k → k < n → f i ≠ f k) → n ≤ m
  | 0, n, f, h, _ => by
    rcases Nat.eq_zero_or_pos n with z | z
    · omega
    · exact absurd (h 0 z) (by omega)
  | m + 1, n, f, h, hi => by
    by_cases e : ∃ i, i < n ∧ f i = m
    · obtain ⟨i, h1, h2⟩ := e
      have := pigeon (m := m) (n := n - 1) (f := fun k => if k = i then f (n - 1) else f k) (fun k hk => ?_) (fun k k' hk hk' => ?_)
      · omega
      · show (if k = i then f (n - 1) else f k) < m
        by_cases z : k = i
        · rw [if_pos z]
          have a1 := h (n - 1) (by omega)
          have a2 := hi i (n - 1) (by omega) (by omega)
          omega
        · rw [if_neg z]
          have a1 := h k (by omega)
          have a2 : f k ≠ m := fun q => by
            rcases Nat.lt_or_ge k i with y | y
            · exact hi k i y h1 (by rw [q, h2])
            · exact hi i k (by omega) (by omega) (by rw [q, h2])
          omega
      · show (if k = i then f (n - 1) else f k) ≠ (if k' = i then f (n - 1) else f k')
        by_cases z : k = i
        · rw [if_pos z, if_neg (by omega)]
          exact fun q => hi k' (n - 1) (by omega) (by omega) q.symm
        · rw [if_neg z]
          by_cases z' : k' = i
          · rw [if_pos z']
            exact hi k (n - 1) (by omega) (by omega)
          · rw [if_neg z']
            exact hi k k' hk (by omega)
    · have := pigeon (m := m) (n := n) (f := f) (fun i hi2 => ?_) hi
      · omega
      · have a1 := h i hi2
        have a2 : f i ≠ m := fun q => e ⟨i, hi2, q⟩
        omega
/-- those who sit by law 2: so many, the last one known -/
def strS (np last k : Nat) : Nat := bs (fun x => decide ((last + np - x) % np < k)) np
theorem strS_0 : ∀ np, np < 9 → ∀ last, last < np → ∀ k, k ≤ np → cb (strS np last k) 8 = k := by decide +kernel
theorem strS_1 : ∀ np, np < 9 → ∀ last, last < np → ∀ k, k ≤ np → (rndS np last k).1 = strS np (rndS np last k).2 k := by decide +kernel
theorem strS_2 : ∀ np, np < 9 → ∀ last, last < np → strS np last np = 2 ^ np - 1 ∧ strS np last 0 = 0 := by decide +kernel
/-- what holds of every moment that comes up -/
def GM (np la : Nat) (m : Nat × Nat) : Prop := m.1 < 2 ^ np ∧ m.2 < np ∧ (la ≠ 2 → m.2 = np - 1) ∧ (la = 2 → ∃ k, k ≤ np ∧ m.1 = strS np m.2 k)
theorem GM.op {t : Tn} {la : Nat} (h2 : 2 ≤ tnp t) (hnp : tnp t ≤ 8) : GM (tnp t) la (op t) := by
  have ho := op_ok h2
  exact ⟨ho.1, ho.2.1, fun _ => rfl, fun _ => ⟨tnp t, Nat.le_refl _, (strS_2 _ (by omega) _ ho.2.1).1.symm⟩⟩
theorem GM.step {np me la : Nat} {kd : Nat → Nat} {w fr : Nat → Bool} {m : Nat × Nat} (h1 : 1 ≤ np) (hnp : np ≤ 8) (hla : la ≤ 2) (h : GM np la m) : GM np la (stepS np me la kd w fr m).2.2.2 := by
  have hok := stepS_ok (me := me) (la := la) (kd := kd) (w := w) (fr := fr) h1 hnp h.1 h.2.1
  refine ⟨hok.1, hok.2.1, ?_⟩
  have hle := hok.2.2.2
  clear hok
  revert hle
  unfold stepS
  by_cases h0 : m.1 = 0
  · rw [if_pos h0]
    exact fun _ => ⟨h.2.2.1, fun _ => ⟨np, Nat.le_refl _, (strS_2 np (by omega) _ h.2.1).1.symm⟩⟩
  · rw [if_neg h0]
    simp only
    generalize seatsS me np (pollS kd w fr m.1 np).2.1 (pollS kd w fr m.1 np).2.2 = n
    intro hle
    unfold seatS
    by_cases s0 : n = 0
    · rw [if_pos s0]
      exact ⟨h.2.2.1, fun _ => ⟨0, Nat.zero_le _, (strS_2 np (by omega) _ h.2.1).2.symm⟩⟩
    · rw [if_neg s0]
      by_cases l0 : la = 0
      · rw [if_pos l0]
        exact ⟨h.2.2.1, fun q => absurd (l0.symm.trans q) (by decide)⟩
      · rw [if_neg l0]
        by_cases l1 : la = 1
        · rw [if_pos l1]
          exact ⟨h.2.2.1, fun q => absurd (l1.symm.trans q) (by decide)⟩
        · rw [if_neg l1]
          exact ⟨fun q => absurd (show la = 2 by omega) q, fun _ => ⟨n, hle, strS_1 np (by omega) _ h.2.1 n hle⟩⟩
theorem GM.mv {t : Tn} {me la : Nat} {W : Nat → Nat → Bool} {m0 : Nat × Nat} (h1 : 1 ≤ tnp t) (hnp : tnp t ≤ 8) (hla : la ≤ 2) (h : GM (tnp t) la m0) : ∀ q, GM (tnp t) la (mvS t me la W m0 q)
  | 0 => h
  | q + 1 => (GM.mv h1 hnp hla h q).step h1 hnp hla
/-- a moment's slot -/
def slN (la : Nat) (m : Nat × Nat) : Nat := if la = 2 then m.2 * 16 + cb m.1 8 else m.1
theorem slN_lt {np la : Nat} {m : Nat × Nat} (hnp : np ≤ 8) (h : GM np la m) : slN la m < 256 := by
  have hp8 := p2_le8 hnp
  have h1 := h.1
  have h2 := h.2.1
  have := cb_le m.1 8
  unfold slN
  split <;> omega
theorem slN_inj {np la : Nat} {m m' : Nat × Nat} (hnp : np ≤ 8) (h : GM np la m) (h' : GM np la m') (e : slN la m = slN la m') : m = m' := by
  unfold slN at e
  have c1 := cb_le m.1 8
  have c2 := cb_le m'.1 8
  by_cases l2 : la = 2
  · rw [if_pos l2, if_pos l2] at e
    have e2 : m.2 = m'.2 := by omega
    obtain ⟨k, k1, k2⟩ := h.2.2.2 l2
    obtain ⟨k', k1', k2'⟩ := h'.2.2.2 l2
    have a1 := strS_0 np (by omega) m.2 h.2.1 k k1
    have a2 := strS_0 np (by omega) m'.2 h'.2.1 k' k1'
    rw [← k2] at a1
    rw [← k2'] at a2
    have : k = k' := by omega
    refine Prod.ext ?_ e2
    rw [k2, k2', this, e2]
  · rw [if_neg l2, if_neg l2] at e
    exact Prod.ext e ((h.2.2.1 l2).trans (h'.2.2.1 l2).symm)
theorem slI {np la : Nat} {m : Nat × Nat} (hnp : np ≤ 8) (hla : la ≤ 2) (h : GM np la m) : (if nI la = 2 then (nI (m.2 * 256 + m.1) / 256 * 2) * 8 + F_bc (nI (m.2 * 256 + m.1) &&& 255) else nI (m.2 * 256 + m.1) &&& 255) = nI (slN la m) := by
  have hp8 := p2_le8 hnp
  have h1 := h.1
  have h2 := h.2.1
  have e255 : nI (m.2 * 256 + m.1) &&& 255 = nI m.1 := by
    rw [show (255 : Int32) = nI (2 ^ 8 - 1) from rfl, fa_mask]
    congr 1
    omega
  have ed : nI (m.2 * 256 + m.1) / 256 = nI m.2 := by
    rw [show (256 : Int32) = nI 256 from rfl, pk_div (by omega) (by omega) (by omega)]
    congr 1
    omega
  have i2 : nI la = 2 ↔ la = 2 := nI_eq (b := 2) (by omega) (by decide)
  unfold slN
  by_cases l2 : la = 2
  · rw [if_pos l2, if_pos (i2.mpr l2), e255, ed, F_bc_n _ (by omega), show (2 : Int32) = nI 2 from rfl, show (8 : Int32) = nI 8 from rfl, pk_mul, pk_mul, nI_add]
    congr 1
    omega
  · have n2 : ¬ nI la = 2 := fun q => l2 (i2.mp q)
    rw [if_neg l2, if_neg n2, e255]
/-- how the i-th run begins -/
def bgS (t : Tn) : Nat → Nat × Nat
  | 0 => op t
  | i + 1 => mvS t (tme t) (tla t) (oW t) (bgS t i) (tit t)
theorem bgS_ok {t : Tn} (hO : TO t) (h2 : 2 ≤ tnp t) : ∀ i, GM (tnp t) (tla t) (bgS t i)
  | 0 => GM.op h2 hO.1
  | i + 1 => GM.mv (by omega) hO.1 hO.2.2.2.1 (bgS_ok hO h2 i) _
/-- run r is the first that begins as an earlier one did, as run j -/
def RgP (t : Tn) (rj : Nat × Nat) : Prop := rj.2 < rj.1 ∧ rj.1 ≤ 256 ∧ bgS t rj.2 = bgS t rj.1 ∧ ∀ i k, i < k → k < rj.1 → bgS t i ≠ bgS t k
theorem ring_ex {t : Tn} (hO : TO t) (h2 : 2 ≤ tnp t) : ∃ rj, RgP t rj := by
  have hex : ∃ r j, j < r ∧ r ≤ 256 ∧ bgS t j = bgS t r := by
    refine Classical.byContradiction fun z => ?_
    have := pigeon (m := 256) (n := 257) (f := fun i => slN (tla t) (bgS t i)) (fun i _ => slN_lt hO.1 (bgS_ok hO h2 i)) (fun i k hk hk2 q => z ⟨k, i, hk, by omega, slN_inj hO.1 (bgS_ok hO h2 i) (bgS_ok hO h2 k) q⟩)
    omega
  have key : ∀ n, (∃ r j, j < r ∧ r ≤ n ∧ bgS t j = bgS t r) → ∃ r j, j < r ∧ r ≤ n ∧ bgS t j = bgS t r ∧ ∀ i k, i < k → k < r → bgS t i ≠ bgS t k := by
    intro n
    induction n with
    | zero =>
      rintro ⟨r, j, h1, h2, -⟩
      omega
    | succ n ih =>
      rintro ⟨r, j, h1, h2, h3⟩
      by_cases z : ∃ r j, j < r ∧ r ≤ n ∧ bgS t j = bgS t r
      · obtain ⟨r', j', a1, a2, a3, a4⟩ := ih z
        exact ⟨r', j', a1, by omega, a3, a4⟩
      · refine ⟨r, j, h1, h2, h3, fun i k hk hk2 q => z ⟨k, i, hk, by omega, q⟩⟩
  obtain ⟨r, j, a1, a2, a3, a4⟩ := key 256 hex
  exact ⟨(r, j), a1, a2, a3, a4⟩
noncomputable def rgS (t : Tn) : Nat × Nat := Classical.epsilon (RgP t)
theorem rgS_ok {t : Tn} (hO : TO t) (h2 : 2 ≤ tnp t) : RgP t (rgS t) := by
  exact Classical.epsilon_spec (ring_ex hO h2)
abbrev kFind : List Nat := [899, 900, 901, 1347, 1348, 1349]
abbrev mI (m : Nat × Nat) : Int32 := nI (m.2 * 256 + m.1)
theorem find_loop {κ : KT} {t : Tn} {rj : Nat × Nat} (hWf : Wf ω) (hd : 5 ≤ d) (hT : TC t σ) (hO : TO t) (h2 : 2 ≤ tnp t) (hme : σ.1 897 = nI (tme t)) (hla : σ.1 898 = nI (tla t)) (hP : RgP t rj)
    (K : Cm ω κ l yX5_find cX5_find 3 d none (fun v σ' => v = none ∧ σ'.1 1347 = mI (bgS t rj.1) ∧ σ'.1 1348 = nI rj.2 ∧ σ'.1 1349 = nI (rj.1 - rj.2) ∧ Eqx kFind [16, 17, 18, 19, 22] σ σ')) :
    ∀ k x σq, x + k = rj.1 → σq.1 1347 = mI (bgS t x) → (∀ i, i < x → σq.2.1 22 (slN (tla t) (bgS t i)) = nI i) → (∀ s, s < 256 → (∀ i, i < x → slN (tla t) (bgS t i) ≠ s) → σq.2.1 22 s = -1) → Eqx kFind [16, 17, 18, 19, 22] σ σq → V ω κ 21 [(0, .ref (ω.2.2.1 21)), (1, .int (nI x))] [] σq
  | 0, x, σq, h, h47, hi, hn, hE => by
    obtain rfl : x = rj.1 := by omega
    obtain ⟨p1, p2, p3, p4⟩ := hP
    have hla' : σq.1 898 = nI (tla t) := (hE.1 898 (by decide)).trans hla
    have hG := bgS_ok hO h2 rj.1
    have es := slI hO.1 hO.2.2.2.1 hG
    have hlt := slN_lt hO.1 hG
    have hge : ¬ (256 : Int32) < nI rj.1 := fun z => absurd ((nI_ltI (a := 256) (by decide) (by omega)).mp z) (by omega)
    have hv : σq.2.1 22 (slN (tla t) (bgS t rj.1)) = nI rj.2 := by rw [← p3]; exact hi rj.2 p1
    have hne : ¬ nI rj.2 = -1 := fun z => absurd (show nI rj.2 < 0 by rw [z]; decide) (nI_pos (by omega))
    have K2 := R_X5_find_21 (σ := σq) (x1 := nI rj.1) K (by omega)
    rw [hla', h47] at K2
    rw [es, nI_clamp (by omega), hv] at K2
    exact K2 (fun z_ => absurd z_ hge) (fun _ => vp_in_nI (by omega) (by omega)) (fun _ z_ => absurd z_ hne) (fun _ z_ => absurd z_ hne) (fun _ _ => vp_in_nI (by omega) (by omega)) (fun _ _ => ⟨rfl, h47, rfl, pk_sub (by omega), (hE.pS (by simp) _).pS (by simp) _⟩)
  | k + 1, x, σq, h, h47, hi, hn, hE => by
    have hP' := hP
    obtain ⟨p1, p2, p3, p4⟩ := hP'
    have hla' : σq.1 898 = nI (tla t) := (hE.1 898 (by decide)).trans hla
    have hme' : σq.1 897 = nI (tme t) := (hE.1 897 (by decide)).trans hme
    have hTq : TC t σq := hT.keep hE (by decide) (by decide)
    have hG := bgS_ok hO h2 x
    have es := slI hO.1 hO.2.2.2.1 hG
    have hlt := slN_lt hO.1 hG
    have hge : ¬ (256 : Int32) < nI x := fun z => absurd ((nI_ltI (a := 256) (by decide) (by omega)).mp z) (by omega)
    have hv : σq.2.1 22 (slN (tla t) (bgS t x)) = -1 := hn _ hlt (fun i hi2 q => p4 i x hi2 (by omega) (slN_inj hO.1 (bgS_ok hO h2 i) hG q))
    have K2 := R_X5_find_21 (σ := σq) (x1 := nI x) K (by omega)
    rw [hla', h47] at K2
    rw [es, nI_clamp (by omega), hv] at K2
    refine K2 (fun z_ => absurd z_ hge) (fun _ => vp_in_nI (by omega) (by omega)) (fun _ _ => vp_in_nI (by omega) (by omega)) (fun _ _ => ?_) (fun _ z_ => absurd rfl z_) (fun _ z_ => absurd rfl z_)
    have hE1 : Eqx [] [22] σq (pA σq 22 (slN (tla t) (bgS t x)) (nI x)) := Eqx.rf.pA (by simp) _ _
    rw [show (0 : Int32) = nI 0 from rfl]
    refine C_X5_find_88 K (by omega) (m_go hWf (by omega) (hTq.keep hE1 (by decide) (by decide)) hO h2 hG.1 hG.2.1 (me := tme t) (la := tla t) hme' hO.2.2.1 hla' hO.2.2.2.1 (Nat.two_pow_pos _)) (fun v σ' hp => ?_)
    obtain ⟨rfl, -, q2⟩ := hp
    refine R_X5_find_91 K ?_
    rw [nI_1, goW_0]
    have e22 : σ'.2.1 22 = upd (σq.2.1 22) (slN (tla t) (bgS t x)) (nI x) := (q2.2.1 22 (by decide)).trans rfl
    refine find_loop hWf hd hT hO h2 hme hla hP K k (x + 1) _ (by omega) rfl (fun i hi2 => ?_) (fun s hs hs2 => ?_) (((hE.tr (hE1.mono (by simp) (by simp))).tr (q2.mono (by simp) (by simp))).pS (by simp) _)
    · show σ'.2.1 22 _ = _
      rw [e22]
      by_cases z : i = x
      · subst z; rw [pk_us]
      · rw [pk_un (fun q => p4 i x (by omega) (by omega) (slN_inj hO.1 (bgS_ok hO h2 i) hG q))]
        exact hi i (by omega)
    · show σ'.2.1 22 _ = _
      rw [e22, pk_un (fun q => hs2 x (by omega) q.symm)]
      exact hn s hs (fun i hi2 => hs2 i (by omega))
theorem m_find {t : Tn} {rj : Nat × Nat} (hWf : Wf ω) (hd : 5 ≤ d) (hT : TC t σ) (hO : TO t) (h2 : 2 ≤ tnp t) (hme : σ.1 897 = nI (tme t)) (hla : σ.1 898 = nI (tla t)) (hP : RgP t rj) : Sp ω l yX5_find cX5_find 3 none d [.ref (ω.2.2.1 21)] σ (fun v σ' => v = none ∧ σ'.1 1347 = mI (bgS t rj.1) ∧ σ'.1 1348 = nI rj.2 ∧ σ'.1 1349 = nI (rj.1 - rj.2) ∧ Eqx kFind [16, 17, 18, 19, 22] σ σ') := by
  refine Sp.of (by decide) (Nat.le_of_ble_eq_true rfl) hWf (fun κ K => R_X5_find_0 K (by omega) ?_)
  have e : (if σ.1 640 - 1 < 0 then (0 : Int32) else σ.1 640 - 1) * 256 + (((1 : Int32) <<< (σ.1 640 &&& 31)) - 1) = mI (op t) := by
    rw [hT.1, nI_all hO.1, show (1 : Int32) = nI 1 from rfl, pk_sub (by omega), if_neg (nI_pos (by have := hO.1; omega)), show (256 : Int32) = nI 256 from rfl, pk_mul, nI_add]
  rw [e]
  exact find_loop hWf hd hT hO h2 hme hla hP K rj.1 0 _ (by omega) rfl (fun i hi => absurd hi (by omega)) (fun s hs _ => if_pos hs) ((Eqx.rf.pF (by simp) _).pS (by simp) _)
end RING
