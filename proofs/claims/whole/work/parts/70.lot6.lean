/-! ===== lot: the model's answer ===== -/
section LOT6
variable {ω : WT} {l : Launch} {d : Nat} {a : Ab} {σ : St}
abbrev kLot : List Nat := [2258, 2259, 2260, 2261, 2262, 2263, 2264, 2265, 2266]
theorem lt_poll {κ : KT} {t : Tn} {w : Int32} {whole : Nat} {post : Option Value → St → Prop} (hWf : Wf ω) (hd : 2 ≤ d) (hT : TM t σ) (hO : TO t) (h2 : 2 ≤ tnp t) (hme : σ.1 2261 = nI (tme t)) (h57 : ∀ S, S < 2 ^ tnp t ∨ S = 256 → σ.2.2.2 57 S = nJ (XM t (tit t - 1) S)) (K : Cm ω κ l yX9_lot cX9_lot 9 d (some .long) post)
    (fin : ∀ σ', Eqx kPoll [] σ σ' → V ω κ 187 [] [.int w, .long (nJ whole), .long (nJ (wonM t (tit t - 1)))] σ') :
    ∀ j i σq, i + j = 2 ^ tnp t → Eqx kPoll [] σ σq → V ω κ 108 [(0, .ref (ω.2.2.1 35)), (1, .int w), (4, .long (nJ whole)), (6, .long (nJ (sumN (fun S => if ocL t (tit t - 1) S = 1 then XM t (tit t - 1) S else 0) i))), (8, .int (nI i))] [] σq
  | 0, i, σq, h, hE => by
    obtain rfl : i = 2 ^ tnp t := by omega
    have hnp := hO.1
    have hp8 := p2_le8 hnp
    have hp4 := p2_ge h2
    have hlt : ((1 : Int32) <<< (σq.1 2245 &&& 31)) - 1 < nI (2 ^ tnp t) := by
      rw [hE.1 2245 (by decide), hT.1, nI_all hnp]
      exact (nI_ltI (by omega) (by omega)).mpr (by omega)
    exact R_X9_lot_108 K (by omega) (fun _ => fin σq hE) (fun z_ => absurd hlt z_) (fun z_ => absurd hlt z_) (fun z_ => absurd hlt z_) (fun z_ => absurd hlt z_)
  | j + 1, i, σq, h, hE => by
    have hnp := hO.1
    have hp8 := p2_le8 hnp
    have hp4 := p2_ge h2
    have hit1 := hO.it1 h2
    have hit := hO.2.2.2.2.1
    have hTq : TM t σq := hT.keep hE (by decide) (by decide)
    have hge : ¬ ((1 : Int32) <<< (σq.1 2245 &&& 31)) - 1 < nI i := by
      rw [hTq.1, nI_all hnp]
      exact fun z => absurd ((nI_ltI (by omega) (by omega)).mp z) (by omega)
    have e57 : σq.2.2.2 57 i = nJ (XM t (tit t - 1) i) := by rw [hE.2.2.2 57 (by simp)]; exact h57 i (Or.inl (by omega))
    have e51 : σq.1 2251 - 1 = nI (tit t - 1) := by rw [hTq.2.2.2.2.1, show (1 : Int32) = nI 1 from rfl, pk_sub (by omega)]
    have ih := lt_poll hWf hd hT hO h2 hme h57 K fin j (i + 1)
    refine R_X9_lot_108 K (by omega) (fun z_ => absurd z_ hge) (fun _ => vp_in_nI (by omega) (by omega)) (fun _ z => ?_) (fun _ _ => ?_) (fun _ z => ?_)
    · rw [nI_clamp (by omega), e57] at z
      have z0 : nJ (XM t (tit t - 1) i) = 0 := (lg_cmp_eq _ _).mp z
      have ih2 := ih σq (by omega) hE
      have e : nJ (sumN (fun S => if ocL t (tit t - 1) S = 1 then XM t (tit t - 1) S else 0) (i + 1)) = nJ (sumN (fun S => if ocL t (tit t - 1) S = 1 then XM t (tit t - 1) S else 0) i) := by
        rw [sumN, ← nJ_add]
        by_cases zz : ocL t (tit t - 1) i = 1
        · rw [if_pos zz, z0, Int64.add_zero]
        · rw [if_neg zz]
          exact Int64.add_zero _
      rw [e] at ih2
      rw [nI_1]
      exact ih2
    · rw [e51]
      exact vp_in_nI (by omega) (by omega)
    · rw [nI_clamp (by omega), e57] at z
      have i0 : i ≠ 0 := fun y => z (by rw [y, XM_0 h2 _]; decide)
      rw [e51, nI_clamp (by omega), hTq.2.2.2.2.2.2.2 _ (by omega)]
      have hE1 : Eqx kPoll [] σ (pS σq 2258 (nI i)) := hE.pS (by simp) _
      refine C_X9_lot_149 K (by omega) (m_pollL (t := t) (q := tit t - 1) (S := i) hWf (by omega) (hT.keep hE1 (by decide) (by decide)) hO (by omega) rfl (by omega) i0 ((hE1.1 2261 (by decide)).trans hme)) (fun v σ1 hp => ?_)
      obtain ⟨rfl, q1, q2, q3⟩ := hp
      have hE2 : Eqx kPoll [] σ σ1 := hE1.tr q3
      have e57b : σ1.2.2.2 57 i = nJ (XM t (tit t - 1) i) := by rw [hE2.2.2.2 57 (by simp)]; exact h57 i (Or.inl (by omega))
      refine R_X9_lot_152 K (fun _ => vp_in_nI (by omega) (by omega)) ?_
      rw [nI_clamp (by omega), e57b, q1, nI_1]
      have ih2 := ih σ1 (by omega) hE2
      have e : nJ (sumN (fun S => if ocL t (tit t - 1) S = 1 then XM t (tit t - 1) S else 0) i) + (if ocL t (tit t - 1) i = 1 then nJ (XM t (tit t - 1) i) else 0) = nJ (sumN (fun S => if ocL t (tit t - 1) S = 1 then XM t (tit t - 1) S else 0) (i + 1)) := by
        rw [sumN, ← nJ_add]
        by_cases zz : ocL t (tit t - 1) i = 1
        · rw [if_pos zz, if_pos zz]
        · rw [if_neg zz, if_neg zz]
          rfl
      rw [e]
      exact ih2
theorem lt_loop {κ : KT} {t : Tn} {w : Int32} {post : Option Value → St → Prop} (hWf : Wf ω) (hd : 3 ≤ d) (hT : TM t σ) (hO : TO t) (h2 : 2 ≤ tnp t) (hme : σ.1 2261 = nI (tme t)) (K : Cm ω κ l yX9_lot cX9_lot 9 d (some .long) post)
    (fin : ∀ σ', Eqx kPoll [57, 58] σ σ' → V ω κ 187 [] [.int w, .long (nJ (alN (tnp t) ^ (tit t - 1))), .long (nJ (wonM t (tit t - 1)))] σ') :
    ∀ j q σq, q + j = tit t - 1 → Eqx kPoll [57, 58] σ σq → (∀ S, S < 2 ^ tnp t ∨ S = 256 → σq.2.2.2 57 S = nJ (XM t q S)) → V ω κ 67 [(0, .ref (ω.2.2.1 35)), (1, .int w), (2, .long (nJ (alN (tnp t)))), (4, .long (nJ (alN (tnp t) ^ q))), (6, .int (nI q))] [] σq
  | 0, q, σq, h, hE, h57 => by
    obtain rfl : q = tit t - 1 := by omega
    have hit1 := hO.it1 h2
    have hit := hO.2.2.2.2.1
    have hTq : TM t σq := hT.keep hE (by decide) (by decide)
    have e51 : σq.1 2251 - 1 = nI (tit t - 1) := by rw [hTq.2.2.2.2.1, show (1 : Int32) = nI 1 from rfl, pk_sub (by omega)]
    have hle : σq.1 2251 - 1 ≤ nI (tit t - 1) := by rw [e51]; exact nI_le (Nat.le_refl _) (by omega)
    refine R_X9_lot_67 K (fun _ => ?_) (fun z_ => absurd hle z_) (fun z_ => absurd hle z_)
    exact lt_poll hWf (by omega) hTq hO h2 ((hE.1 2261 (by decide)).trans hme) h57 K (fun σ' hE' => fin σ' (hE.tr (hE'.mono (by simp) (by simp)))) (2 ^ tnp t) 0 σq (by omega) Eqx.rf
  | j + 1, q, σq, h, hE, h57 => by
    have hit1 := hO.it1 h2
    have hit := hO.2.2.2.2.1
    have hTq : TM t σq := hT.keep hE (by decide) (by decide)
    have e51 : σq.1 2251 - 1 = nI (tit t - 1) := by rw [hTq.2.2.2.2.1, show (1 : Int32) = nI 1 from rfl, pk_sub (by omega)]
    have hge : ¬ σq.1 2251 - 1 ≤ nI q := by
      rw [e51]
      exact fun z => absurd ((nI_leI (by omega) (by omega)).mp z) (by omega)
    refine R_X9_lot_67 K (fun z_ => absurd z_ hge) (fun _ => vp_in_nI (by omega) (by omega)) (fun _ => ?_)
    rw [nI_clamp (by omega), hTq.2.2.2.2.2.2.2 q (by omega)]
    refine C_X9_lot_87 K (by omega) (m_goLot hWf (by omega) hTq hO h2 (by omega) ((hE.1 2261 (by decide)).trans hme) h57) (fun v σ' hp => ?_)
    obtain ⟨rfl, q1, q2⟩ := hp
    refine R_X9_lot_90 K ?_
    rw [nI_1, nJ_mul, ← Nat.pow_succ]
    exact lt_loop hWf hd hT hO h2 hme K fin j (q + 1) σ' (by omega) (hE.tr q2) q1
theorem lt_fill {κ : KT} {np : Nat} {w : Int32} {post : Option Value → St → Prop} (hd : 1 ≤ d) (hnp : np ≤ 8) (hp : σ.1 2245 = nI np) (K : Cm ω κ l yX9_lot cX9_lot 9 d (some .long) post)
    (fin : ∀ σ', Eqx [] [57] σ σ' → (∀ k, k < 257 → σ'.2.2.2 57 k = 0) → V ω κ 57 [(0, .ref (ω.2.2.1 35)), (1, .int w)] [.ref (ω.2.2.1 35)] (pM σ' 57 (2 ^ np - 1) 1)) :
    ∀ j i σq, i + j = 257 → Eqx [] [57] σ σq → (∀ k, k < i → σq.2.2.2 57 k = 0) → V ω κ 26 [(0, .ref (ω.2.2.1 35)), (1, .int w), (2, .int (nI i))] [] σq
  | 0, i, σq, h, hE, h0 => by
    obtain rfl : i = 257 := by omega
    have hp8 := p2_le8 hnp
    have hle : (257 : Int32) ≤ nI 257 := by decide
    have e45 : σq.1 2245 = nI np := (hE.1 2245 (by decide)).trans hp
    have K2 := R_X9_lot_26 (σ := σq) (x1 := w) (x2 := nI 257) K hd
    rw [e45, nI_all hnp, nI_clamp (n := 2 ^ np - 1) (by omega)] at K2
    exact K2 (fun _ => vp_in_nI (by omega) (by omega)) (fun _ => fin σq hE h0) (fun z_ => absurd hle z_) (fun z_ => absurd hle z_)
  | j + 1, i, σq, h, hE, h0 => by
    have hge : ¬ (257 : Int32) ≤ nI i := fun z => absurd ((nI_leI (a := 257) (by decide) (by omega)).mp z) (by omega)
    refine R_X9_lot_26 K hd (fun z_ => absurd z_ hge) (fun z_ => absurd z_ hge) (fun _ => vp_in_nI (by omega) (by omega)) (fun _ => ?_)
    rw [nI_clamp (by omega), nI_1]
    refine lt_fill hd hnp hp K fin j (i + 1) _ (by omega) (hE.pM (by simp) _ _) (fun k hk => ?_)
    show vp_updL (σq.2.2.2 57) i 0 k = 0
    by_cases z : k = i
    · subst z; exact uL_s
    · rw [uL_n z]; exact h0 k (by omega)
theorem lot_fr {t : Tn} (hO : TO t) (h2 : 2 ≤ tnp t) : lotU t = wonM t (tit t - 1) / Nat.gcd (wonM t (tit t - 1)) (alN (tnp t) ^ (tit t - 1)) ∧ lotD t = alN (tnp t) ^ (tit t - 1) / Nat.gcd (wonM t (tit t - 1)) (alN (tnp t) ^ (tit t - 1)) ∧ wonM t (tit t - 1) ≤ alN (tnp t) ^ (tit t - 1) ∧ alN (tnp t) ^ (tit t - 1) < 2 ^ 63 ∧ 0 < alN (tnp t) ^ (tit t - 1) := by
  have hnp := hO.1
  have hit1 := hO.it1 h2
  have hit := hO.2.2.2.2.1
  obtain ⟨-, a1, a2⟩ := ac_al (tnp t) (by omega) h2
  have hr := relW hO h2 (tit t - 1)
  rw [show tit t - 1 + 1 = tit t by omega] at hr
  have hd : 0 < alN (tnp t) ^ (tit t - 1) := Nat.pow_pos a2
  have hb : 0 < 840 ^ tit t := Nat.pow_pos (by omega)
  have hf := frac hr hb hd
  have hwl : wonC t (tit t - 1) ≤ 840 ^ tit t := by
    have := wonC_le hO h2 (tit t - 1)
    rw [show tit t - 1 + 1 = tit t by omega] at this
    exact this
  refine ⟨hf.1, hf.2, ?_, Nat.lt_of_le_of_lt (Nat.pow_le_pow_left a1 _) (p840 (by omega)), hd⟩
  refine Nat.le_of_mul_le_mul_right ?_ hb
  rw [← hr, Nat.mul_comm (alN (tnp t) ^ (tit t - 1))]
  exact Nat.mul_le_mul_right _ hwl
theorem d_lot {w : Int32} (hWf : Wf ω) (hd : 6 ≤ d) (hA : AO a) (hR : RM a σ) : Sp ω l yX9_lot cX9_lot 9 (some .long) d [.ref (ω.2.2.1 35), .int w] σ (PMJ (o_lot a w) a σ) := by
  refine Sp.of (by decide) (Nat.le_of_ble_eq_true rfl) hWf (fun κ K => ?_)
  have hnp := hA.1.1
  by_cases h4 : (if w < 0 then (0 : Int32) else (if 1 < w then 0 else 1)) = 0
  · have ho : o_lot a w = -9223372036854775808 := by simp only [o_lot, rgm0 (n := 1) (by decide) h4]
    rw [ho] at K
    exact R_X9_lot_0 K (by omega) (fun _ => ⟨rfl, hR, EM.rf⟩) (fun z_ => absurd h4 z_) (fun z_ => absurd h4 z_)
  · obtain ⟨j, hj, rfl, e⟩ := rgm1 (n := 1) (by decide) h4
    have e' : ix (nI j) 2 = some j := e
    refine R_X9_lot_0 K (by omega) (fun z_ => absurd z_ h4) (fun _ h0 => ?_) (fun _ h0 => ?_)
    · rw [hR.1.1] at h0
      have h1 := tw1 h0
      have h2 := hA.1.two h1
      have ho : o_lot a (nI j) = if j = 0 then nJ (lotU (att a)) else nJ (lotD (att a)) := by
        simp only [o_lot, e', if_neg h1]
      obtain ⟨f1, f2, f3, f4, f5⟩ := lot_fr hA.1 h2
      rw [ho, f1, f2] at K
      have el : pS (pS (pS (pS (pS σ 2258 (((1 : Int32) <<< (σ.1 2245 &&& 31)) - 1)) 2259 0) 2260 (σ.1 2245 - 1)) 2261 (σ.1 2249)) 2262 (σ.1 2250) = layM σ (tnp (att a)) (tme (att a)) (tla (att a)) := by
        rw [hR.1.1, hR.1.2.2.1, hR.1.2.2.2.1, nI_all hnp, show (1 : Int32) = nI 1 from rfl, pk_sub (by omega)]
        rfl
      rw [el]
      have hE0 := layM_E σ (tnp (att a)) (tme (att a)) (tla (att a))
      have hp8 := p2_le8 hnp
      refine lt_fill (σ := layM σ (tnp (att a)) (tme (att a)) (tla (att a))) (np := tnp (att a)) (by omega) hnp ((hE0.1 2245 (by decide)).trans hR.1.1) K (fun σ1 hE1 hz => ?_) 257 0 _ (by omega) Eqx.rf (fun k hk => absurd hk (by omega))
      have hE2 : Eqx kLot [57, 58] σ (pM σ1 57 (2 ^ tnp (att a) - 1) 1) := ((hE0.mono (by simp) (by simp)).tr (hE1.mono (by simp) (by simp))).pM (by simp) _ _
      have hT2 : TM (att a) (pM σ1 57 (2 ^ tnp (att a) - 1) 1) := hR.1.keep hE2 (by decide) (by decide)
      refine C_X9_lot_57 K (by omega) (m_allWays hWf (by omega) hnp h2 hT2.1) (go_J ?_)
      refine R_X9_lot_60 K ?_
      have hme2 : (pM σ1 57 (2 ^ tnp (att a) - 1) 1).1 2261 = nI (tme (att a)) := (hE1.1 2261 (by simp)).trans rfl
      refine lt_loop (w := nI j) hWf (by omega) hT2 hA.1 h2 hme2 K (fun σ' hE' => ?_) (tit (att a) - 1) 0 _ (by omega) Eqx.rf (fun S hS => ?_)
      · refine C_X9_lot_187 K (by omega) (m_share hWf (by omega) f4 f5) (go_J ?_)
        refine R_X9_lot_190 K ?_
        have hE3 : Eqx kLot [57, 58] σ σ' := hE2.tr (hE'.mono (by simp) (by simp))
        refine ⟨?_, hR.keep hE3 (by decide) (by decide), EM.of hE3 (by decide) (by decide)⟩
        by_cases z : j = 0
        · subst z
          rw [if_pos rfl, if_pos (by decide)]
        · have hz : ¬ nI j = (0 : Int32) := fun y => z ((nI_eq (b := 0) (by omega) (by omega)).mp y)
          rw [if_neg z, if_neg hz]
      · show vp_updL (σ1.2.2.2 57) (2 ^ tnp (att a) - 1) 1 S = nJ (XM (att a) 0 S)
        rw [XM]
        by_cases z : S = 2 ^ tnp (att a) - 1
        · subst z
          rw [uL_s, if_pos rfl]
          rfl
        · rw [uL_n z, if_neg z]
          exact hz S (by omega)
    · rw [hR.1.1] at h0
      have h1 := tw0 (by omega) h0
      have ho : o_lot a (nI j) = -9223372036854775808 := by simp only [o_lot, e', if_pos h1]
      rw [ho]
      exact ⟨rfl, hR, EM.rf⟩
end LOT6
