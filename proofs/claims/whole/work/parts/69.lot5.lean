/-! ===== lot: the model ===== -/
section LOT5
variable {ω : WT} {l : Launch} {d : Nat} {a : Ab} {σ : St}
/-- what a poll of the set S leaves -/
theorem poll_L {t : Tn} {q S : Nat} (hO : TO t) (hS0 : S ≠ 0) : ocS (pollS (tkd t) (tellW t (tag t q) 0 0) (Nat.testBit 0) S (tnp t)).2.1 (pollS (tkd t) (tellW t (tag t q) 0 0) (Nat.testBit 0) S (tnp t)).2.2 = ocL t q S ∧ seatsS (tme t) (tnp t) (pollS (tkd t) (tellW t (tag t q) 0 0) (Nat.testBit 0) S (tnp t)).2.1 (pollS (tkd t) (tellW t (tag t q) 0 0) (Nat.testBit 0) S (tnp t)).2.2 = seL t q S := by
  have e : pollS (tkd t) (tellW t (tag t q) 0 0) (Nat.testBit 0) S (tnp t) = pollS (tkd t) (fun x => tws t x (tag t q)) (fun _ => false) S (tnp t) := by
    refine pollS_cong (fun x hx => ?_) (fun x hx => Nat.zero_testBit x)
    unfold tellW
    rw [Nat.zero_testBit, if_neg (by decide)]
  rw [e]
  unfold ocL seL stepS
  simp only [if_neg hS0]
  exact ⟨trivial, trivial⟩
abbrev kPoll : List Nat := [2258, 2263, 2264, 2265, 2266]
theorem m_pollL {t : Tn} {q S : Nat} (hWf : Wf ω) (hd : 1 ≤ d) (hT : TM t σ) (hO : TO t) (hq : q < tit t) (hset : σ.1 2258 = nI S) (hS : S < 2 ^ tnp t) (hS0 : S ≠ 0) (hme : σ.1 2261 = nI (tme t)) :
    Sp ω l yX9_poll cX9_poll 9 none d [.ref (ω.2.2.1 35), .int (nI (tag t q)), .int 0, .int 0] σ (fun v σ' => v = none ∧ σ'.1 2265 = ocL t q S ∧ σ'.1 2266 = nI (seL t q S) ∧ Eqx kPoll [] σ σ') := by
  have hp8 := p2_le8 hO.1
  obtain ⟨e1, e2⟩ := poll_L (q := q) hO hS0
  have hag := hO.2.2.2.2.2.2.1 q hq
  refine (m_poll (fa := 0) (to := 0) hWf hd hT hO hset (by omega) hme hO.2.2.1 hag (by omega) (by omega)).imp (fun v σ' h => ?_)
  obtain ⟨rfl, rfl⟩ := h
  rw [e1, e2]
  exact ⟨rfl, rfl, rfl, (((Eqx.rf.pS (by simp) _).pS (by simp) _).pS (by simp) _).pS (by simp) _⟩
abbrev tmS (t : Tn) (q S S' : Nat) : Nat := if seL t q S' ≠ 0 ∧ cb S 8 = seL t q S' then XM t q S' * (alN (tnp t) / chK (tnp t) (seL t q S')) else 0
abbrev tmZ (t : Tn) (q S' : Nat) : Nat := if seL t q S' = 0 then XM t q S' * alN (tnp t) else 0
theorem gl_copy {κ : KT} {t : Tn} {q : Nat} {post : Option Value → St → Prop} (hnp : tnp t ≤ 8) (K : Cm ω κ l yX9_goLot cX9_goLot 5 d none post)
    (h58 : ∀ S, S < 2 ^ tnp t ∨ S = 256 → σ.2.2.2 58 S = nJ (XM t (q + 1) S)) (fin : ∀ σ', Eqx [] [57] σ σ' → (∀ S, S < 2 ^ tnp t ∨ S = 256 → σ'.2.2.2 57 S = nJ (XM t (q + 1) S)) → post none σ') :
    ∀ j i σq, i + j = 257 → Eqx [] [57] σ σq → (∀ S, S < i → σq.2.2.2 57 S = σ.2.2.2 58 S) → V ω κ 114 [(0, .ref (ω.2.2.1 35)), (4, .int (nI i))] [] σq
  | 0, i, σq, h, hE, h1 => by
    obtain rfl : i = 257 := by omega
    have hp8 := p2_le8 hnp
    have hle : (257 : Int32) ≤ nI 257 := by decide
    exact R_X9_goLot_114 K (fun _ => fin σq hE (fun S hS => by rw [h1 S (by omega)]; exact h58 S hS)) (fun z_ => absurd hle z_) (fun z_ => absurd hle z_) (fun z_ => absurd hle z_)
  | j + 1, i, σq, h, hE, h1 => by
    have hge : ¬ (257 : Int32) ≤ nI i := fun z => absurd ((nI_leI (a := 257) (by decide) (by omega)).mp z) (by omega)
    refine R_X9_goLot_114 K (fun z_ => absurd z_ hge) (fun _ => vp_in_nI (by omega) (by omega)) (fun _ => vp_in_nI (by omega) (by omega)) (fun _ => ?_)
    rw [nI_clamp (by omega), nI_1, hE.2.2.2 58 (by decide)]
    refine gl_copy hnp K h58 fin j (i + 1) _ (by omega) (hE.pM (by simp) _ _) (fun S hS => ?_)
    show vp_updL (σq.2.2.2 57) i _ S = _
    by_cases z : S = i
    · subst z; exact uL_s
    · rw [uL_n z]; exact h1 S (by omega)
theorem gl_loop {κ : KT} {t : Tn} {q : Nat} {post : Option Value → St → Prop} (hWf : Wf ω) (hd : 2 ≤ d) (hT : TM t σ) (hO : TO t) (h2 : 2 ≤ tnp t) (hq : q < tit t) (hme : σ.1 2261 = nI (tme t)) (h57 : ∀ S, S < 2 ^ tnp t ∨ S = 256 → σ.2.2.2 57 S = nJ (XM t q S)) (K : Cm ω κ l yX9_goLot cX9_goLot 5 d none post)
    (fin : ∀ σ', Eqx kPoll [57, 58] σ σ' → (∀ S, S < 2 ^ tnp t ∨ S = 256 → σ'.2.2.2 57 S = nJ (XM t (q + 1) S)) → post none σ') :
    ∀ j i σq, i + j = 2 ^ tnp t → Eqx kPoll [58] σ σq → (∀ S, S < 2 ^ tnp t → σq.2.2.2 58 S = nJ (sumN (tmS t q S) i)) → σq.2.2.2 58 256 = nJ (sumN (tmZ t q) i) → V ω κ 7 [(0, .ref (ω.2.2.1 35)), (1, .int (nI (tag t q))), (2, .long (nJ (alN (tnp t)))), (4, .int (nI i))] [] σq
  | 0, i, σq, h, hE, h58, h58b => by
    obtain rfl : i = 2 ^ tnp t := by omega
    have hnp := hO.1
    have hp8 := p2_le8 hnp
    have hp4 := p2_ge h2
    have e45 : σq.1 2245 = nI (tnp t) := (hE.1 2245 (by decide)).trans hT.1
    have K2 := R_X9_goLot_7 (σ := σq) (x1 := nI (tag t q)) (x4 := nI (2 ^ tnp t)) (x2 := nJ (alN (tnp t))) K (by omega)
    rw [e45, nI_all hnp, nI_clamp (by omega), show (256 : Int32).toNatClampNeg = 256 from rfl, h58 _ (by omega), hE.2.2.2 57 (by decide), h57 256 (Or.inr rfl), nJ_mul, nJ_add] at K2
    have hlt : nI (2 ^ tnp t - 1) < nI (2 ^ tnp t) := (nI_ltI (by omega) (by omega)).mpr (by omega)
    have hv : vp_in (256 : Int32) 257 := vp_in_nI (n := 256) (by decide) (by decide)
    refine K2 (fun _ => vp_in_nI (by omega) (by omega)) (fun _ => hv) (fun _ => vp_in_nI (by omega) (by omega)) (fun _ => ?_) (fun z_ => absurd hlt z_) (fun z_ => absurd hlt z_) (fun z_ => absurd hlt z_)
    have hE1 : Eqx kPoll [58] σ (pM σq 58 (2 ^ tnp t - 1) (nJ (sumN (tmS t q (2 ^ tnp t - 1)) (2 ^ tnp t) + XM t q 256 * alN (tnp t)))) := hE.pM (by simp) _ _
    refine gl_copy (t := t) (q := q) hnp K (fun S hS => ?_) (fun σ' hE' h' => fin σ' ((hE1.mono (by simp) (by simp)).tr (hE'.mono (by simp) (by simp))) h') 257 0 _ (by omega) Eqx.rf (fun S hS => absurd hS (by omega))
    show vp_updL (σq.2.2.2 58) (2 ^ tnp t - 1) _ S = _
    by_cases z : S = 2 ^ tnp t - 1
    · subst z
      rw [uL_s, XM, if_neg (by omega), if_pos rfl]
    · rw [uL_n z]
      by_cases z2 : S = 256
      · subst z2
        rw [h58b, XM, if_pos rfl]
      · rw [h58 S (by omega), XM, if_neg z2, if_neg z, Nat.add_zero]
  | j + 1, i, σq, h, hE, h58, h58b => by
    have hnp := hO.1
    have hp8 := p2_le8 hnp
    have hp4 := p2_ge h2
    have hal := (ac_al (tnp t) (by omega) h2).2
    have e45 : σq.1 2245 = nI (tnp t) := (hE.1 2245 (by decide)).trans hT.1
    have ih := gl_loop hWf hd hT hO h2 hq hme h57 K fin j (i + 1)
    have K2 := R_X9_goLot_7 (σ := σq) (x1 := nI (tag t q)) (x4 := nI i) (x2 := nJ (alN (tnp t))) K (by omega)
    have hge : ¬ nI (2 ^ tnp t - 1) < nI i := fun z => absurd ((nI_ltI (by omega) (by omega)).mp z) (by omega)
    have e57 : σq.2.2.2 57 i = nJ (XM t q i) := by rw [hE.2.2.2 57 (by decide)]; exact h57 i (Or.inl (by omega))
    rw [e45, nI_all hnp] at K2
    refine K2 (fun z_ => absurd z_ hge) (fun z_ => absurd z_ hge) (fun z_ => absurd z_ hge) (fun z_ => absurd z_ hge) (fun _ => vp_in_nI (by omega) (by omega)) (fun _ z => ?_) (fun _ z => ?_)
    · rw [nI_clamp (by omega), e57] at z
      have z0 : nJ (XM t q i) = 0 := (lg_cmp_eq _ _).mp z
      rw [nI_1]
      refine ih σq (by omega) hE (fun S hS => ?_) ?_
      · rw [h58 S hS, sumN, ← nJ_add]
        have : nJ (tmS t q S i) = 0 := by
          unfold tmS
          split
          · exact nJ_z z0
          · rfl
        rw [this, Int64.add_zero]
      · rw [h58b, sumN, ← nJ_add]
        have : nJ (tmZ t q i) = 0 := by
          unfold tmZ
          split
          · exact nJ_z z0
          · rfl
        rw [this, Int64.add_zero]
    · rw [nI_clamp (by omega), e57] at z
      have i0 : i ≠ 0 := fun y => z (by rw [y, XM_0 h2 q]; decide)
      have hE1 : Eqx kPoll [58] σ (pS σq 2258 (nI i)) := hE.pS (by simp) _
      have hse := seL_le (q := q) hO h2 (show i < 2 ^ tnp t by omega)
      refine C_X9_goLot_38 K (by omega) (m_pollL (t := t) (q := q) (S := i) hWf (by omega) (hT.keep hE1 (by decide) (by decide)) hO hq rfl (by omega) i0 ((hE1.1 2261 (by decide)).trans hme)) (fun v σ1 hp => ?_)
      obtain ⟨rfl, q1, q2, q3⟩ := hp
      have hE2 : Eqx kPoll [58] σ σ1 := hE1.tr (q3.mono (by simp) (by simp))
      have e58 : σ1.2.2.2 58 = σq.2.2.2 58 := (q3.2.2.2 58 (by simp)).trans rfl
      have e57b : σ1.2.2.2 57 i = nJ (XM t q i) := by rw [hE2.2.2.2 57 (by decide)]; exact h57 i (Or.inl (by omega))
      have hv : vp_in (256 : Int32) 257 := vp_in_nI (n := 256) (by decide) (by decide)
      refine R_X9_goLot_41 K (fun _ => vp_in_nI (by omega) (by omega)) (fun z2 => ?_) (fun _ => hv) (fun _ => vp_in_nI (by omega) (by omega)) (fun _ => hv) (fun z2 => ?_)
      · have s0 : seL t q i ≠ 0 := fun y => z2 (by rw [q2, y]; rfl)
        rw [nI_clamp (by omega), e57b]
        refine C_X9_goLot_80 K (by omega) (m_drawSeats (np := tnp t) (s := seL t q i) hWf (by omega) hnp ((hE2.1 2245 (by decide)).trans hT.1) q2 hse hal.1) (fun v σ2 hp => ?_)
        obtain ⟨rfl, p1, p2, p3⟩ := hp
        refine R_X9_goLot_83 K ?_
        rw [nI_1]
        refine ih σ2 (by omega) (hE2.tr (p3.mono (by simp) (by simp))) (fun S hS => ?_) ?_
        · rw [p1 S hS, e58, h58 S hS, nJ_add, sumN]
          congr 2
          by_cases zc : cb S 8 = seL t q i
          · rw [if_pos zc]
            exact (if_pos ⟨s0, zc⟩).symm
          · rw [if_neg zc]
            exact (if_neg (fun y => zc y.2)).symm
        · rw [p2, e58, h58b, sumN]
          congr 1
          have : tmZ t q i = 0 := if_neg s0
          rw [this, Nat.add_zero]
      · have s0 : seL t q i = 0 := by
          rw [q2] at z2
          exact (nI_eq (b := 0) (by omega) (by omega)).mp z2
        rw [nI_clamp (by omega), e57b, show (256 : Int32).toNatClampNeg = 256 from rfl, e58, h58b, nJ_mul, nJ_add, nI_1]
        refine ih _ (by omega) (hE2.pM (by simp) _ _) (fun S hS => ?_) ?_
        · show vp_updL (σ1.2.2.2 58) 256 _ S = _
          rw [uL_n (by omega), e58, h58 S hS, sumN]
          congr 1
          have : tmS t q S i = 0 := if_neg (fun y => y.1 s0)
          rw [this, Nat.add_zero]
        · have ez : tmZ t q i = XM t q i * alN (tnp t) := if_pos s0
          have es : sumN (tmZ t q) (i + 1) = sumN (tmZ t q) i + XM t q i * alN (tnp t) := by rw [sumN, ez]
          rw [es]
          show vp_updL (σ1.2.2.2 58) 256 _ 256 = _
          exact uL_s
theorem m_goLot {t : Tn} {q : Nat} (hWf : Wf ω) (hd : 2 ≤ d) (hT : TM t σ) (hO : TO t) (h2 : 2 ≤ tnp t) (hq : q < tit t) (hme : σ.1 2261 = nI (tme t)) (h57 : ∀ S, S < 2 ^ tnp t ∨ S = 256 → σ.2.2.2 57 S = nJ (XM t q S)) :
    Sp ω l yX9_goLot cX9_goLot 5 none d [.ref (ω.2.2.1 35), .int (nI (tag t q)), .long (nJ (alN (tnp t)))] σ (fun v σ' => v = none ∧ (∀ S, S < 2 ^ tnp t ∨ S = 256 → σ'.2.2.2 57 S = nJ (XM t (q + 1) S)) ∧ Eqx kPoll [57, 58] σ σ') := by
  refine Sp.of (by decide) (Nat.le_of_ble_eq_true rfl) hWf (fun κ K => R_X9_goLot_0 K ?_)
  have hp8 := p2_le8 hO.1
  refine C_X9_goLot_1 K (by omega) (m_clearNext hWf) (fun v σ1 hp => ?_)
  obtain ⟨rfl, h0, hE⟩ := hp
  refine R_X9_goLot_4 K ?_
  exact gl_loop hWf hd (hT.keep hE (by decide) (by decide)) hO h2 hq ((hE.1 2261 (by decide)).trans hme) (fun S hS => by rw [hE.2.2.2 57 (by decide)]; exact h57 S hS) K (fun σ' hE' h' => ⟨rfl, h', (hE.mono (by simp) (by simp)).tr hE'⟩) (2 ^ tnp t) 0 σ1 (by omega) Eqx.rf (fun S hS => h0 S (by omega)) (h0 256 (by omega))
end LOT5
