/-! ===== vote, decided, sits ===== -/
section RUNS
variable {ω : WT} {l : Launch} {d : Nat} {a : Ab} {σ : St}
theorem goW_0 (t : Tn) : goW t 0 = fun q x => tws t x (tag t q) := by
  funext q x
  simp [goW]
theorem TO.two {t : Tn} (h : TO t) (hp : tnp t ≠ 0) : 2 ≤ tnp t := by
  have := h.2.2.2.2.2.2.2.2
  omega
theorem TO.two_q {t : Tn} (h : TO t) {q : Nat} (hq : q < tit t) : 2 ≤ tnp t := by
  have := h.2.2.2.2.2.2.2.2
  omega
abbrev mvT (t : Tn) (q : Nat) : Nat × Nat := mvS t (tme t) (tla t) (fun q x => tws t x (tag t q)) (op t) q
abbrev vtT (t : Tn) (q : Nat) : Nat × Int32 × Nat × Nat × Nat := vtS t (tme t) (tla t) (fun q x => tws t x (tag t q)) (op t) q
/-- once through the agenda, the class's way -/
theorem go_runOnce (hWf : Wf ω) (hd : 5 ≤ d) (hA : AO a) (hR : RC a σ) (h2 : 2 ≤ tnp (att a)) : Sp ω l yX8_runOnce cX8_runOnce 1 (some .int) d [.ref (ω.2.2.1 0)] σ (fun v σ' => v = some (.int (nI ((mvT (att a) (tit (att a))).2 * 256 + (mvT (att a) (tit (att a))).1))) ∧ RecC (att a) (tme (att a)) (tla (att a)) (fun q x => tws (att a) x (tag (att a) q)) (op (att a)) (tit (att a)) σ' ∧ RC a σ' ∧ EC σ σ' ∧ σ'.1 897 = nI (tme (att a)) ∧ σ'.1 898 = nI (tla (att a))) := by
  refine Sp.imp (m_runOnce hWf hd hR.1 hA.1 h2) (fun v σ' h => ?_)
  rw [goW_0] at h
  obtain ⟨h1, h2, h3, h4, h5⟩ := h
  exact ⟨h1, h2, hR.keep h3 (by decide) (by decide), EC.of h3 (by decide) (by decide), h4, h5⟩
theorem go_goFirst (hWf : Wf ω) (hd : 5 ≤ d) (hA : AO a) (hR : RM a σ) (h2 : 2 ≤ tnp (att a)) : Sp ω l yX9_goFirst cX9_goFirst 1 none d [.ref (ω.2.2.1 35)] σ (fun v σ' => v = none ∧ MM (mvT (att a) (tit (att a))) σ' ∧ RecM (att a) (tme (att a)) (tla (att a)) (fun q x => tws (att a) x (tag (att a) q)) (op (att a)) (tit (att a)) σ' ∧ RM a σ' ∧ EM σ σ') := by
  refine Sp.imp (m_goFirst hWf hd hR.1 hA.1 h2) (fun v σ' h => ?_)
  obtain ⟨h1, h2, h3, h4⟩ := h
  exact ⟨h1, h2, h3, hR.keep h4 (by decide) (by decide), EM.of h4 (by decide) (by decide)⟩
def o_vote (a : Ab) (q w : Int32) : Int32 := match ix q (tit (att a)) with
  | none => -1
  | some j => match ix w 5 with
    | none => -2
    | some 0 => nI (tag (att a) j)
    | some 1 => nI (mvT (att a) j).1
    | some 2 => nI (vtT (att a) j).1
    | some 3 => (vtT (att a) j).2.1
    | some _ => nI (vtT (att a) j).2.2.1
theorem o_vote5 {q j k : Nat} (a : Ab) (hj : ix (nI q) (tit (att a)) = some j) (hk : k < 5) (r : Nat → Int32) (h0 : r 0 = nI (tag (att a) j)) (h1 : r 1 = nI (mvT (att a) j).1) (h2 : r 2 = nI (vtT (att a) j).1) (h3 : r 3 = (vtT (att a) j).2.1) (h4 : r 4 = nI (vtT (att a) j).2.2.1) : o_vote a (nI q) (nI k) = r k := by
  unfold o_vote
  rw [hj, ix_n hk (by decide)]
  rcases (by omega : k = 0 ∨ k = 1 ∨ k = 2 ∨ k = 3 ∨ k = 4) with rfl | rfl | rfl | rfl | rfl
  · exact h0.symm
  · exact h1.symm
  · exact h2.symm
  · exact h3.symm
  · exact h4.symm
theorem ix5 (x : Int32) : (ix x 5 = none ∧ (x < 0 ∨ ¬ x ≤ 4)) ∨ ∃ j, j < 5 ∧ x = nI j ∧ ix x 5 = some j ∧ ¬ x < 0 ∧ x ≤ 4 := by
  rcases ix_cases x 5 (by decide) with ⟨e, h⟩ | ⟨j, hj, rfl, e⟩
  · refine Or.inl ⟨e, h.imp id (fun z q => ?_)⟩
    have : nI 5 ≤ nI 4 := Int32.le_trans z q
    exact absurd ((nI_leI (by decide) (by decide)).mp this) (by decide)
  · exact Or.inr ⟨j, hj, rfl, e, nI_pos (by omega), (nI_leI (b := 4) (by omega) (by decide)).mpr (by omega)⟩
theorem c_vote {q w : Int32} (hWf : Wf ω) (hd : 6 ≤ d) (hA : AO a) (hR : RC a σ) : Sp ω l yX8_vote cX8_vote 3 (some .int) d [.ref (ω.2.2.1 0), .int q, .int w] σ (PC (o_vote a q w) a σ) := by
  refine Sp.of (by decide) (Nat.le_of_ble_eq_true rfl) hWf (fun κ K => ?_)
  have hit := hA.1.2.2.2.2.1
  have e44 := hR.1.2.2.2.2.1
  rcases ix_cases q (tit (att a)) (by omega) with ⟨e, h⟩ | ⟨j, hj, rfl, e⟩
  · have ho : o_vote a q w = -1 := by simp only [o_vote, e]
    rw [ho] at K
    have hno : ¬ q < 0 → ¬ q < σ.1 644 := fun z1 z2 => by
      rw [e44] at z2
      rcases h with h | h
      · exact z1 h
      · exact absurd (Int32.lt_of_lt_of_le z2 h) Int32.lt_irrefl
    exact R_X8_vote_0 K (fun _ => PC.at rfl hR EC.rf) (fun z1_ z2_ => absurd z2_ (hno z1_)) (fun z1_ z2_ => absurd z2_ (hno z1_)) (fun z1_ z2_ => absurd z2_ (hno z1_)) (fun _ _ => PC.at rfl hR EC.rf)
  · have hn : ¬ nI j < 0 := nI_pos (by omega)
    have hlt : nI j < σ.1 644 := by rw [e44]; exact (nI_ltI (by omega) (by omega)).mpr hj
    rcases ix5 w with ⟨e5, h5⟩ | ⟨k, hk, rfl, e5, g1, g2⟩
    · have ho : o_vote a (nI j) w = -2 := by simp only [o_vote, e, e5]
      rw [ho] at K
      exact R_X8_vote_0 K (fun z_ => absurd z_ hn) (fun _ _ _ => PC.at rfl hR EC.rf) (fun _ _ z1_ z2_ => absurd (h5.resolve_left z1_) (fun f_ => f_ z2_)) (fun _ _ _ _ => PC.at rfl hR EC.rf) (fun _ z_ => absurd hlt z_)
    · refine R_X8_vote_0 K (fun z_ => absurd z_ hn) (fun _ _ z_ => absurd z_ g1) (fun _ _ _ _ => ?_) (fun _ _ _ z_ => absurd g2 z_) (fun _ z_ => absurd hlt z_)
      refine C_X8_vote_30 K (by omega) (go_runOnce hWf (by omega) hA hR (hA.1.two_q hj)) (fun v σ' hp => ?_)
      obtain ⟨rfl, hrec, hR', hE', -, -⟩ := hp
      obtain ⟨r1, r2, r3, r4⟩ := hrec j hj
      have hag := hR'.1.2.2.2.2.2.2.2.2.2 j hj
      have hin : vp_in (nI j) 6 := vp_in_nI (by omega) (by omega)
      have hcl : (nI j).toNatClampNeg = j := nI_clamp (by omega)
      rw [o_vote5 a e hk (fun i => match i with | 0 => σ'.2.1 13 j | 1 => σ'.2.1 16 j | 2 => σ'.2.1 17 j | 3 => σ'.2.1 18 j | _ => σ'.2.1 19 j) hag r1 r2 r3 r4] at K
      have hq : ∀ i, i < 5 → (nI k = nI i ↔ k = i) := fun i hi => nI_eq (by omega) (by omega)
      refine R_X8_vote_33 K (fun _ => hin) (fun z0_ => ?_) (fun _ _ => hin) (fun _ z1_ => ?_) (fun _ _ _ => hin) (fun _ _ z2_ => ?_) (fun _ _ _ _ => hin) (fun _ _ _ z3_ => ?_) (fun _ _ _ _ => hin) (fun z0_ z1_ z2_ z3_ => ?_)
      · obtain rfl := (hq 0 (by omega)).mp z0_
        rw [hcl]; exact PC.at rfl hR' hE'
      · obtain rfl := (hq 1 (by omega)).mp z1_
        rw [hcl]; exact PC.at rfl hR' hE'
      · obtain rfl := (hq 2 (by omega)).mp z2_
        rw [hcl]; exact PC.at rfl hR' hE'
      · obtain rfl := (hq 3 (by omega)).mp z3_
        rw [hcl]; exact PC.at rfl hR' hE'
      · have n0 : k ≠ 0 := fun y_ => z0_ ((hq 0 (by omega)).mpr y_)
        have n1 : k ≠ 1 := fun y_ => z1_ ((hq 1 (by omega)).mpr y_)
        have n2 : k ≠ 2 := fun y_ => z2_ ((hq 2 (by omega)).mpr y_)
        have n3 : k ≠ 3 := fun y_ => z3_ ((hq 3 (by omega)).mpr y_)
        obtain rfl : k = 4 := by omega
        rw [hcl]; exact PC.at rfl hR' hE'
theorem d_vote {q w : Int32} (hWf : Wf ω) (hd : 6 ≤ d) (hA : AO a) (hR : RM a σ) : Sp ω l yX9_vote cX9_vote 3 (some .int) d [.ref (ω.2.2.1 35), .int q, .int w] σ (PM (o_vote a q w) a σ) := by
  refine Sp.of (by decide) (Nat.le_of_ble_eq_true rfl) hWf (fun κ K => ?_)
  have hit := hA.1.2.2.2.2.1
  have hnp := hA.1.1
  have e44 := hR.1.2.2.2.2.1
  have e40 := hR.1.1
  rcases ix_cases q (tit (att a)) (by omega) with ⟨e, h⟩ | ⟨j, hj, rfl, e⟩
  · have ho : o_vote a q w = -1 := by simp only [o_vote, e]
    rw [ho] at K
    have hno : ¬ q < 0 → ¬ q < σ.1 2251 := fun z1 z2 => by
      rw [e44] at z2
      rcases h with h | h
      · exact z1 h
      · exact absurd (Int32.lt_of_lt_of_le z2 h) Int32.lt_irrefl
    exact R_X9_vote_0 K (by omega) (fun _ => PM.at rfl hR EM.rf) (fun _ _ => PM.at rfl hR EM.rf) (fun _ z1_ z2_ => absurd z2_ (hno z1_)) (fun _ z1_ z2_ => absurd z2_ (hno z1_)) (fun _ _ _ => PM.at rfl hR EM.rf)
  · have hn : ¬ nI j < 0 := nI_pos (by omega)
    have h2 := hA.1.two_q hj
    have hlt : nI j < σ.1 2251 := by rw [e44]; exact (nI_ltI (by omega) (by omega)).mpr hj
    have htw : ¬ (if σ.1 2245 ≤ 0 then (0 : Int32) else 1) = 0 := fun z_ => by
      rw [e40] at z_
      have := tw0 (by omega) z_
      omega
    by_cases h4 : (if w < 0 then (0 : Int32) else (if 4 < w then 0 else 1)) = 0
    · have ho : o_vote a (nI j) w = -2 := by simp only [o_vote, e, rgm0 (n := 4) (by decide) h4]
      rw [ho] at K
      exact R_X9_vote_0 K (by omega) (fun z_ => absurd z_ htw) (fun _ z_ => absurd z_ hn) (fun _ _ _ z_ => absurd h4 z_) (fun _ _ _ _ => PM.at rfl hR EM.rf) (fun _ _ z_ => absurd hlt z_)
    · obtain ⟨k, hk, rfl, e5⟩ := rgm1 (n := 4) (by decide) h4
      refine R_X9_vote_0 K (by omega) (fun z_ => absurd z_ htw) (fun _ z_ => absurd z_ hn) (fun _ _ _ _ => ?_) (fun _ _ _ z_ => absurd z_ h4) (fun _ _ z_ => absurd hlt z_)
      refine C_X9_vote_34 K (by omega) (go_goFirst hWf (by omega) hA hR h2) (fun v σ' hp => ?_)
      obtain ⟨rfl, -, hrec, hR', hE'⟩ := hp
      obtain ⟨r1, r2, r3, r4⟩ := hrec j hj
      have hag := hR'.1.2.2.2.2.2.2.2 j hj
      have hin : vp_in (nI j) 6 := vp_in_nI (by omega) (by omega)
      have hcl : (nI j).toNatClampNeg = j := nI_clamp (by omega)
      rw [o_vote5 a e hk (fun i => match i with | 0 => σ'.2.1 41 j | 1 => σ'.2.1 44 j | 2 => σ'.2.1 45 j | 3 => σ'.2.1 46 j | _ => σ'.2.1 47 j) hag r1 r2 r3 r4] at K
      have hq : ∀ i, i < 5 → (nI k = nI i ↔ k = i) := fun i hi => nI_eq (by omega) (by omega)
      refine R_X9_vote_37 K (fun _ => hin) (fun z0_ => ?_) (fun _ _ => hin) (fun _ z1_ => ?_) (fun _ _ _ => hin) (fun _ _ z2_ => ?_) (fun _ _ _ _ => hin) (fun _ _ _ z3_ => ?_) (fun _ _ _ _ => hin) (fun z0_ z1_ z2_ z3_ => ?_)
      · obtain rfl := (hq 0 (by omega)).mp z0_
        rw [hcl]; exact PM.at rfl hR' hE'
      · obtain rfl := (hq 1 (by omega)).mp z1_
        rw [hcl]; exact PM.at rfl hR' hE'
      · obtain rfl := (hq 2 (by omega)).mp z2_
        rw [hcl]; exact PM.at rfl hR' hE'
      · obtain rfl := (hq 3 (by omega)).mp z3_
        rw [hcl]; exact PM.at rfl hR' hE'
      · have n0 : k ≠ 0 := fun y_ => z0_ ((hq 0 (by omega)).mpr y_)
        have n1 : k ≠ 1 := fun y_ => z1_ ((hq 1 (by omega)).mpr y_)
        have n2 : k ≠ 2 := fun y_ => z2_ ((hq 2 (by omega)).mpr y_)
        have n3 : k ≠ 3 := fun y_ => z3_ ((hq 3 (by omega)).mpr y_)
        obtain rfl : k = 4 := by omega
        rw [hcl]; exact PM.at rfl hR' hE'
/-! decided -/
def o_decided (a : Ab) (m : Int32) : Int32 := match ix m (tnm (att a)) with
  | none => -1
  | some j => match plc (tag (att a)) j (tit (att a)) with
    | none => -9
    | some q => (vtT (att a) q).2.1
theorem c_decided {m : Int32} (hWf : Wf ω) (hd : 6 ≤ d) (hA : AO a) (hR : RC a σ) : Sp ω l yX8_decided cX8_decided 3 (some .int) d [.ref (ω.2.2.1 0), .int m] σ (PC (o_decided a m) a σ) := by
  refine Sp.of (by decide) (Nat.le_of_ble_eq_true rfl) hWf (fun κ K => ?_)
  have hit := hA.1.2.2.2.2.1
  have hnm := hA.1.2.1
  refine R_X8_decided_0 K (by omega) (fun h0 => ?_) (fun h0 => ?_)
  · rw [hR.1.2.1] at h0
    obtain ⟨j, hj, rfl, e⟩ := rg1 (by omega) h0
    refine C_X8_decided_18 K (by omega) (m_placeOfC hWf hR.1 hA.1 (by omega)) (go_I ?_)
    cases ep : plc (tag (att a)) j (tit (att a)) with
    | none =>
      have ho : o_decided a (nI j) = -9 := by simp only [o_decided, e, ep]
      rw [ho] at K
      exact R_X8_decided_21 K (fun z_ => absurd z_ (by decide)) (fun _ => PC.at rfl hR EC.rf)
    | some q =>
      obtain ⟨hq, -⟩ := plc_some ep
      have ho : o_decided a (nI j) = (vtT (att a) q).2.1 := by simp only [o_decided, e, ep]
      rw [ho] at K
      refine R_X8_decided_21 K (fun _ => ?_) (fun z_ => absurd (Int32.not_lt.mp (nI_pos (by omega : q < 2 ^ 31))) z_)
      refine C_X8_decided_30 K (by omega) (go_runOnce hWf (by omega) hA hR (hA.1.two_q hq)) (fun v σ' hp => ?_)
      obtain ⟨rfl, hrec, hR', hE', -, -⟩ := hp
      refine R_X8_decided_33 K (vp_in_nI (by omega) (by omega)) ?_
      exact PC.at (r := (vtT (att a) q).2.1) (by show σ'.2.1 18 (nI q).toNatClampNeg = _; rw [nI_clamp (by omega)]; exact (hrec q hq).2.2.1) hR' hE'
  · rw [hR.1.2.1] at h0
    have ho : o_decided a m = -1 := by simp only [o_decided, rg0 (by omega) h0]
    rw [ho]
    exact PC.at rfl hR EC.rf
theorem d_decided {m : Int32} (hWf : Wf ω) (hd : 6 ≤ d) (hA : AO a) (hR : RM a σ) : Sp ω l yX9_decided cX9_decided 3 (some .int) d [.ref (ω.2.2.1 35), .int m] σ (PM (o_decided a m) a σ) := by
  refine Sp.of (by decide) (Nat.le_of_ble_eq_true rfl) hWf (fun κ K => ?_)
  have hit := hA.1.2.2.2.2.1
  have hnm := hA.1.2.1
  refine R_X9_decided_0 K (by omega) (fun h0 => ?_) (fun h0 => ?_)
  · rw [hR.1.2.1] at h0
    obtain ⟨j, hj, rfl, e⟩ := rg1 (by omega) h0
    refine C_X9_decided_12 K (by omega) (m_placeOfM hWf hR.1 hA.1 (by omega)) (go_I ?_)
    cases ep : plc (tag (att a)) j (tit (att a)) with
    | none =>
      have ho : o_decided a (nI j) = -9 := by simp only [o_decided, e, ep]
      rw [ho] at K
      exact R_X9_decided_15 K (fun z_ => absurd rfl z_) (fun _ => PM.at rfl hR EM.rf)
    | some q =>
      obtain ⟨hq, -⟩ := plc_some ep
      have ho : o_decided a (nI j) = (vtT (att a) q).2.1 := by simp only [o_decided, e, ep]
      rw [ho] at K
      refine R_X9_decided_15 K (fun _ => ?_) (fun z_ => absurd (show nI q < 0 by rw [show nI q = -9 from z_]; decide) (nI_pos (by omega)))
      refine C_X9_decided_26 K (by omega) (go_goFirst hWf (by omega) hA hR (hA.1.two_q hq)) (fun v σ' hp => ?_)
      obtain ⟨rfl, -, hrec, hR', hE'⟩ := hp
      refine R_X9_decided_29 K (vp_in_nI (by omega) (by omega)) ?_
      exact PM.at (r := (vtT (att a) q).2.1) (by show σ'.2.1 46 (nI q).toNatClampNeg = _; rw [nI_clamp (by omega)]; exact (hrec q hq).2.2.1) hR' hE'
  · rw [hR.1.2.1] at h0
    have ho : o_decided a m = -1 := by simp only [o_decided, rg0 (by omega) h0]
    rw [ho]
    exact PM.at rfl hR EM.rf
/-! sits -/
def o_sits (a : Ab) : Int32 := if tnp (att a) = 0 then -3 else if (mvT (att a) (tit (att a))).1 = 0 then -6 else nI (mvT (att a) (tit (att a))).1
theorem c_sits (hWf : Wf ω) (hd : 6 ≤ d) (hA : AO a) (hR : RC a σ) : Sp ω l yX8_sits cX8_sits 2 (some .int) d [.ref (ω.2.2.1 0)] σ (PC (o_sits a) a σ) := by
  refine Sp.of (by decide) (Nat.le_of_ble_eq_true rfl) hWf (fun κ K => ?_)
  have hnp := hA.1.1
  refine R_X8_sits_0 K (by omega) (fun h0 => ?_) (fun h0 => ?_)
  · rw [hR.1.1] at h0
    have h1 := tw1 h0
    have h2 := hA.1.two h1
    refine C_X8_sits_14 K (by omega) (go_runOnce hWf (by omega) hA hR h2) (fun v σ' hp => ?_)
    obtain ⟨rfl, -, hR', hE', -, -⟩ := hp
    refine R_X8_sits_17 K (by omega) ?_
    have ho := op_ok h2
    have hp8 := p2_le8 hnp
    obtain ⟨v1, v2⟩ := mvS_ok (t := att a) (me := tme (att a)) (la := tla (att a)) (W := fun q x => tws (att a) x (tag (att a) q)) (m0 := op (att a)) (by omega) hnp ho.1 ho.2.1 (tit (att a))
    have v1 : (mvT (att a) (tit (att a))).1 < 2 ^ tnp (att a) := v1
    have v2 : (mvT (att a) (tit (att a))).2 < tnp (att a) := v2
    have e255 : nI ((mvT (att a) (tit (att a))).2 * 256 + (mvT (att a) (tit (att a))).1) &&& 255 = nI (mvT (att a) (tit (att a))).1 := by
      rw [show (255 : Int32) = nI (2 ^ 8 - 1) from rfl, fa_mask]
      congr 1
      omega
    rw [e255]
    refine PC.at (r := o_sits a) ?_ hR' hE'
    unfold o_sits
    rw [if_neg h1]
    by_cases z : (mvT (att a) (tit (att a))).1 = 0
    · rw [if_pos z, if_pos (by rw [z]; rfl)]
    · have nz : ¬ nI (mvT (att a) (tit (att a))).1 = 0 := fun q_ => z ((nI_eq (b := 0) (by omega) (by decide)).mp q_)
      rw [if_neg z, if_neg nz]
  · rw [hR.1.1] at h0
    have ho : o_sits a = -3 := by unfold o_sits; rw [if_pos (tw0 (by omega) h0)]
    rw [ho]
    exact PC.at rfl hR EC.rf
theorem d_sits (hWf : Wf ω) (hd : 6 ≤ d) (hA : AO a) (hR : RM a σ) : Sp ω l yX9_sits cX9_sits 1 (some .int) d [.ref (ω.2.2.1 35)] σ (PM (o_sits a) a σ) := by
  refine Sp.of (by decide) (Nat.le_of_ble_eq_true rfl) hWf (fun κ K => ?_)
  have hnp := hA.1.1
  refine R_X9_sits_0 K (by omega) (fun h0 => ?_) (fun h0 => ?_)
  · rw [hR.1.1] at h0
    have h1 := tw1 h0
    have h2 := hA.1.two h1
    refine C_X9_sits_11 K (by omega) (go_goFirst hWf (by omega) hA hR h2) (fun v σ' hp => ?_)
    obtain ⟨rfl, hM, -, hR', hE'⟩ := hp
    refine R_X9_sits_14 K (PM.at (r := o_sits a) ?_ hR' hE')
    unfold o_sits
    rw [if_neg h1]
    by_cases z : (mvT (att a) (tit (att a))).1 = 0
    · rw [if_pos z, hM.2.1 z]; rfl
    · rw [if_neg z, (hM.2.2 z).1, (hM.2.2 z).2]; rfl
  · rw [hR.1.1] at h0
    have ho : o_sits a = -3 := by unfold o_sits; rw [if_pos (tw0 (by omega) h0)]
    rw [ho]
    exact PM.at rfl hR EM.rf
end RUNS
