/-! ===== safe, the model's call ===== -/
section SAFE3
variable {ω : WT} {l : Launch} {d : Nat} {a : Ab} {σ : St}
theorem bs_z {p : Nat → Bool} {n : Nat} (h : bs p n = 0) : ∀ i, i < n → p i = false := fun i hi => by
  have := bs_bit p n i
  rw [h, Nat.zero_testBit, decide_eq_true hi, Bool.true_and] at this
  exact this.symm
theorem saf_z {t : Tn} {A B : List (List Nat)} (hall : allO t = A ++ B) (h : bs (okA t A) 12 = 0) : bs (safB t) 12 = 0 := by
  have : bs (safB t) 12 = bs (fun _ => false) 12 := bs_cong (fun i hi => by
    show (allO t).all (fun p => okP t (i / 3) (i % 3) p (op t)) = false
    rw [hall, List.all_append]
    have := bs_z h i hi
    have this : A.all (fun p => okP t (i / 3) (i % 3) p (op t)) = false := this
    rw [this]
    rfl)
  rw [this]
  decide
theorem safM_loop {κ : KT} (hWf : Wf ω) (hd : 6 ≤ d) (hA : AO a) (h2 : 2 ≤ tnp (att a)) (h1 : 1 ≤ tit (att a)) {post : Option Value → St → Prop} (K : Cm ω κ l yX9_safe cX9_safe 4 d (some .int) post)
    (fin : ∀ σ', RM a σ' → EM σ σ' → post (some (.int (nI (bs (safB (att a)) 12)))) σ') :
    ∀ (r : List (List Nat)) (A : List (List Nat)) (p : List Nat) (σq : St), allO (att a) = A ++ p :: r → chL (tit (att a)) (p :: r) = true → RW p (tit (att a)) σq → RM a σq → EM σ σq → V ω κ 20 [(0, .ref (ω.2.2.1 35)), (1, .int (nI (bs (okA (att a) A) 12))), (2, .int 1)] [] σq := by
  have hit := hA.1.2.2.2.2.1
  have bz : ∀ A, nI (bs (okA (att a) A) 12) = 0 ↔ bs (okA (att a) A) 12 = 0 := fun A => nI_eq (b := 0) (by have := bs_lt (okA (att a) A) 12; omega) (by decide)
  have e0 : ∀ A p, bs (mixS (att a) A p 0) 12 = bs (okA (att a) A) 12 := fun A p => bs_cong (fun i _ => if_neg (by omega))
  intro r
  induction r with
  | nil =>
    intro A p σq hall hch hW hR hE
    rw [chL, Bool.and_eq_true] at hch
    have hnx : nxL (tit (att a)) p = none := eq_of_beq hch.1
    refine R_X9_safe_20 K (fun z_ => absurd z_ (by decide)) (fun _ z_ => ?_) (fun _ _ => ?_)
    · have z := (bz A).mp z_
      have := fin σq hR hE
      rw [saf_z hall z] at this
      rw [z]
      exact this
    · have pr := safM_pairs (σ := σq) (A := A) (p := p) hWf hd hA h2 (by rw [hall]; simp) K hW hR (fun σ1 hW1 hR1 hE1 => ?_) 12 0 σq (by omega) Eqx.rf
      · rw [e0] at pr
        exact pr
      · refine C_X9_safe_99 K (by omega) (m_nextRow hWf h1 hit (by omega) hR1.1.2.2.2.2.1 hW1) (fun v σ2 hp => ?_)
        rcases hp with ⟨-, rfl, hE2⟩ | ⟨p', q1, -⟩
        · refine R_X9_safe_102 K ?_
          refine R_X9_safe_20 K (fun _ => ?_) (fun z_ => absurd rfl z_) (fun z_ => absurd rfl z_)
          have hs : bs (okA (att a) (A ++ [p])) 12 = bs (safB (att a)) 12 := bs_cong (fun i _ => by
            show (A ++ [p]).all _ = (allO (att a)).all _
            rw [hall])
          rw [hs]
          exact fin σ2 (hR1.keep hE2 (by decide) (by decide)) ((hE.tr hE1).tr (EM.of hE2 (by decide) (by decide)))
        · rw [hnx] at q1
          cases q1
  | cons p1 r ih =>
    intro A p σq hall hch hW hR hE
    rw [chL, Bool.and_eq_true] at hch
    have hnx : nxL (tit (att a)) p = some p1 := eq_of_beq hch.1
    refine R_X9_safe_20 K (fun z_ => absurd z_ (by decide)) (fun _ z_ => ?_) (fun _ _ => ?_)
    · have z := (bz A).mp z_
      have := fin σq hR hE
      rw [saf_z hall z] at this
      rw [z]
      exact this
    · have pr := safM_pairs (σ := σq) (A := A) (p := p) hWf hd hA h2 (by rw [hall]; simp) K hW hR (fun σ1 hW1 hR1 hE1 => ?_) 12 0 σq (by omega) Eqx.rf
      · rw [e0] at pr
        exact pr
      · refine C_X9_safe_99 K (by omega) (m_nextRow hWf h1 hit (by omega) hR1.1.2.2.2.2.1 hW1) (fun v σ2 hp => ?_)
        rcases hp with ⟨q1, -⟩ | ⟨p', q1, rfl, hW2, hE2⟩
        · rw [hnx] at q1
          cases q1
        · rw [hnx] at q1
          cases q1
          refine R_X9_safe_102 K ?_
          exact ih (A ++ [p]) p1 σ2 (by rw [hall, List.append_assoc]; rfl) hch.2 hW2 (hR1.keep hE2 (by decide) (by decide)) ((hE.tr hE1).tr (EM.of hE2 (by decide) (by decide)))
theorem d_safe (hWf : Wf ω) (hd : 6 ≤ d) (hA : AO a) (hR : RM a σ) : Sp ω l yX9_safe cX9_safe 4 (some .int) d [.ref (ω.2.2.1 35)] σ (PM (o_safe a) a σ) := by
  refine Sp.of (by decide) (Nat.le_of_ble_eq_true rfl) hWf (fun κ K => ?_)
  have hnp := hA.1.1
  have hm := mtS_ok hA.1
  refine R_X9_safe_0 K (by omega) (fun h0 => ?_) (fun h0 => ?_)
  · rw [hR.1.1] at h0
    have h1 := tw1 h0
    have h2 := hA.1.two h1
    have hi1 : 1 ≤ tit (att a) := by have := hA.1.2.2.2.2.2.2.2.2; omega
    have ho : o_safe a = nI (bs (safB (att a)) 12) := by unfold o_safe; rw [if_neg h1]
    rw [ho] at K
    refine C_X9_safe_15 K (by omega) (m_firstRow hWf (by omega) hR.1 hA.1 hi1) (fun v σ1 hp => ?_)
    obtain ⟨rfl, hW, hE1⟩ := hp
    refine R_X9_safe_18 K ?_
    have hR1 := hR.keep hE1 (by decide) (by decide)
    have hhd := (prm_len (mtS (att a)) hm.2.1).2.1
    have hch := chL_ok (mtS (att a)) hm.2.1
    rw [hm.2.2] at hhd hch
    cases el : allO (att a) with
    | nil =>
      have el2 : prm (tit (att a)) (mtS (att a)) = [] := el
      rw [el2] at hhd
      cases hhd
    | cons p r =>
      have el2 : prm (tit (att a)) (mtS (att a)) = p :: r := el
      rw [el2] at hhd hch
      cases hhd
      exact safM_loop (σ := σ) hWf hd hA h2 hi1 K (fun σ' q1 q2 => PM.at rfl q1 q2) r [] (ascS (mtS (att a)) 6) σ1 el hch hW hR1 (EM.of hE1 (by decide) (by decide))
  · rw [hR.1.1] at h0
    have ho : o_safe a = -3 := by unfold o_safe; rw [if_pos (tw0 (by omega) h0)]
    rw [ho]
    exact PM.at rfl hR EM.rf
end SAFE3
