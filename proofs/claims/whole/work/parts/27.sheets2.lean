/-! ===== sheets: lose, put, cell ===== -/
section SHEETS2
variable {ω : WT} {l : Launch} {d : Nat} {a : Ab} {σ : St}
def o_lose (a : Ab) (k : Int32) : Int32 × Ab := match ix k 4 with
  | none => (-1, a)
  | some j => (if (ash a j).isSome then 1 else 0, setSh a j none)
theorem a_lose {k : Int32} (hA : AO a) : AO (o_lose a k).2 := by
  unfold o_lose
  cases ix k 4 with
  | none => exact hA
  | some j => exact hA.sh trivial
theorem c_lose {k : Int32} (hWf : Wf ω) (hd : 1 ≤ d) (hA : AO a) (hR : RC a σ) : Sp ω l yX8_lose cX8_lose 3 (some .int) d [.ref (ω.2.2.1 0), .int k] σ (PC (o_lose a k).1 (o_lose a k).2 σ) := by
  refine Sp.of (by decide) (Nat.le_of_ble_eq_true rfl) hWf (fun κ K => R_X8_lose_0 K hd (fun h0 => ?_) (fun h0 => ?_))
  · obtain ⟨j, hj, rfl, e⟩ := rg1 (n := 4) (by decide) h0
    have ho : o_lose a (nI j) = (if (ash a j).isSome then 1 else 0, setSh a j none) := by unfold o_lose; simp only [e]
    rw [ho] at K
    refine A_X8_lose_14 hj K (R_X8_lose_15 hj K hd (A_X8_lose_24 hj K (R_X8_lose_25 hj K hd ?_)))
    have hE : Eqx [64 * (2 + j) + 1, 64 * (2 + j) + 2] [6 + j] σ (pS σ (64 * (2 + j) + 1) (-1)) := Eqx.rf.pS (by simp) _
    refine PC.at ?_ (hR.sh (s := none) hj (by show (pS σ (64 * (2 + j) + 1) (-1)).1 (64 * (2 + j) + 1) = -1; simp [pS]) hE) (EC.of hE (by simp; omega) (by simp; omega))
    rcases shC_row hR hj hA with ⟨r1, r2⟩ | ⟨so, len, c, r1, r2, r3, r4, r5, r6, r7⟩
    · rw [r1, r2]; rfl
    · rw [r1, if_neg r7]; rfl
  · unfold o_lose
    simp only [rg0 (n := 4) (by decide) h0]
    exact PC.at rfl hR EC.rf
theorem shM_row {j : Nat} (hR : RM a σ) (hj : j < 4) (hA : AO a) : (ash a j = none ∧ σ.2.1 36 j = -9) ∨ (∃ so n c, ash a j = some (so, n, c) ∧ so ≤ 2 ∧ n ≤ 80 ∧ σ.2.1 36 j = nI so ∧ σ.2.1 37 j = nI n ∧ (∀ i, i < n → σ.2.1 38 (80 * j + i) = c i) ∧ ¬ σ.2.1 36 j = -9) := by
  have h := hR.2.2.2 j hj
  have ho := hA.2 j hj
  cases e : ash a j with
  | none =>
    rw [e] at h
    exact Or.inl ⟨rfl, h⟩
  | some s =>
    obtain ⟨so, n, c⟩ := s
    rw [e] at h ho
    refine Or.inr ⟨so, n, c, rfl, ho.1, ho.2, h.1, h.2.1, h.2.2, ?_⟩
    rw [h.1]
    have : ∀ s, s ≤ 2 → ¬ nI s = -9 := by decide
    exact this so ho.1
theorem d_lose {k : Int32} (hWf : Wf ω) (hd : 2 ≤ d) (hA : AO a) (hR : RM a σ) : Sp ω l yX9_lose cX9_lose 3 (some .int) d [.ref (ω.2.2.1 35), .int k] σ (PM (o_lose a k).1 (o_lose a k).2 σ) := by
  refine Sp.of (by decide) (Nat.le_of_ble_eq_true rfl) hWf (fun κ K => R_X9_lose_0 K hd (fun h0 => ?_) (fun h0 => ?_) (fun h0 => ?_) (fun h0 => ?_))
  · obtain ⟨j, hj, rfl, e⟩ := rgm1 (n := 3) (by decide) h0
    exact vp_in_nI (by omega) (by omega)
  · obtain ⟨j, hj, rfl, e⟩ := rgm1 (n := 3) (by decide) h0
    exact vp_in_nI (by omega) (by omega)
  · obtain ⟨j, hj, rfl, e⟩ := rgm1 (n := 3) (by decide) h0
    have ho : o_lose a (nI j) = (if (ash a j).isSome then 1 else 0, setSh a j none) := by unfold o_lose; simp only [e]
    rw [ho, nI_clamp (by omega)]
    have hE : Eqx [] [36, 37, 38] σ (pA σ 36 j (-9)) := Eqx.rf.pA (by simp) _ _
    refine PM.at ?_ (hR.sh (s := none) (show upd (σ.2.1 36) j (-9) j = -9 from pk_us) (fun i hi hij => ?_) hE) (EM.of hE (by decide) (by decide))
    · rcases shM_row hR hj hA with ⟨r1, r2⟩ | ⟨so, len, c, r1, r2, r3, r4, r5, r6, r7⟩
      · rw [r1, r2]; rfl
      · rw [r1, if_neg r7]; rfl
    · exact shM_other (j := j) (hR.2.2.2 i hi) (hA.2 i hi) hij (show upd (σ.2.1 36) j (-9) i = _ from pk_un hij) rfl (fun p _ => rfl)
  · unfold o_lose
    simp only [rgm0 (n := 3) (by decide) h0]
    exact PM.at rfl hR EM.rf
/-! put -/
def cutS (so : Nat) (v : Int32) : Int32 := if so = 0 then v.toInt8.toInt32 else if so = 1 then v.toInt16.toInt32 else v
def o_put (a : Ab) (k i v : Int32) : Int32 × Ab := match ix k 4 with
  | none => (-1, setFl a 0)
  | some j => match ash a j with
    | none => (-11, setFl a 1)
    | some (so, n, c) => match ix i n with
      | none => (-13, setFl a 3)
      | some p => (1, setSh (setFl a 0) j (some (so, n, upd c p (cutS so v))))
theorem a_put {k i v : Int32} (hA : AO a) : AO (o_put a k i v).2 := by
  cases e0 : ix k 4 with
  | none => simp only [o_put, e0]; exact hA
  | some j =>
    cases e : ash a j with
    | none => simp only [o_put, e0, e]; exact hA
    | some s =>
      obtain ⟨so, n, c⟩ := s
      have h := hA.2 j (ix_some e0).1
      rw [e] at h
      cases e2 : ix i n with
      | none => simp only [o_put, e0, e, e2]; exact hA
      | some p => simp only [o_put, e0, e, e2]; exact AO.sh (a := setFl a 0) hA h
theorem cut_c {so : Nat} (hs : so ≤ 2) (v : Int32) : (if nI so = 0 then v.toInt8.toInt32 else (if nI so = 1 then v.toInt16.toInt32 else v)) = cutS so v := by
  unfold cutS
  rcases (show so = 0 ∨ so = 1 ∨ so = 2 by omega) with rfl | rfl | rfl <;> rfl
theorem hasC1 {x : Int32} {len : Nat} (hl : len ≤ 80) : (hasC x 1 len = 0 ∧ ix x len = none) ∨ (¬ hasC x 1 len = 0 ∧ ∃ p, p < len ∧ x = nI p ∧ ix x len = some p) := by
  by_cases h : hasC x 1 len = 0
  · refine Or.inl ⟨h, ?_⟩
    rcases ix_cases x len (by omega) with ⟨e, -⟩ | ⟨p, hp, rfl, e⟩
    · exact e
    · have := hasC_0 (p := p) (q := 1) hl (by omega)
      rw [show nI 1 = (1 : Int32) from rfl] at this
      rw [this] at h
      exact absurd h (by decide)
  · refine Or.inr ⟨h, ?_⟩
    obtain ⟨p, q, h1, h2, h3⟩ := hasC_1 hl h
    have hq : q = 1 := by
      have h4 : nI q = nI 1 := h2.symm
      exact (nI_eq (by omega) (by omega)).mp h4
    exact ⟨p, by omega, h1, by rw [h1]; exact ix_n (by omega) (by omega)⟩
theorem c_put {k i v : Int32} (hWf : Wf ω) (hd : 1 ≤ d) (hA : AO a) (hR : RC a σ) : Sp ω l yX8_put cX8_put 5 (some .int) d [.ref (ω.2.2.1 0), .int k, .int i, .int v] σ (PC (o_put a k i v).1 (o_put a k i v).2 σ) := by
  have h9 := hR.fl 0
  have hE : EC σ (pS σ 9 0) := EC.rf.s (by decide) _
  have hov : ∀ w, pS (pS σ 9 0) 9 w = pS σ 9 w := fun w => pS_over σ 9 0 w
  refine Sp.of (by decide) (Nat.le_of_ble_eq_true rfl) hWf (fun κ K => R_X8_put_0 K hd (fun h0 => ?_) (fun h0 => ?_))
  · obtain ⟨j, hj, rfl, e⟩ := rg1 (n := 4) (by decide) h0
    refine A_X8_put_19 hj K ?_
    rcases shC_row h9 hj hA with ⟨r1, r2⟩ | ⟨so, len, c, r1, r2, r3, r4, r5, r6, r7⟩
    · have r1 : ash a j = none := r1
      have ho : o_put a (nI j) i v = (-11, setFl a 1) := by unfold o_put; simp only [e, r1]
      rw [ho] at K
      refine R_X8_put_20 hj K hd (fun q => absurd r2 q) (fun q => absurd r2 q) (fun q => absurd r2 q) (fun _ => ?_)
      rw [hov]
      exact PC.at rfl (hR.fl 1) (EC.rf.s (by decide) _)
    · have r1 : ash a j = some (so, len, c) := r1
      rcases hasC1 (x := i) r3 with ⟨g1, g2⟩ | ⟨g1, p, g2, g3, g4⟩
      · have ho : o_put a (nI j) i v = (-13, setFl a 3) := by unfold o_put; simp only [e, r1, g2]
        rw [ho] at K
        have g1' : (if i < 0 then (0 : Int32) else (if (pS σ 9 0).1 (64 * (2 + j) + 1) < i then 0 else (if (1 : Int32) < 0 then 0 else (if (pS σ 9 0).1 (64 * (2 + j) + 1) - i < 1 then 0 else 1)))) = 0 := by rw [r4]; exact g1
        refine R_X8_put_20 hj K hd (fun _ q => absurd g1' q) (fun _ q => absurd g1' q) (fun _ _ => ?_) (fun q => absurd q r7)
        rw [hov]
        exact PC.at rfl (hR.fl 3) (EC.rf.s (by decide) _)
      · subst g3
        have ho : o_put a (nI j) (nI p) v = (1, setSh (setFl a 0) j (some (so, len, upd c p (cutS so v)))) := by unfold o_put; simp only [e, r1, g4]
        rw [ho] at K
        have g1' : ¬ (if nI p < 0 then (0 : Int32) else (if (pS σ 9 0).1 (64 * (2 + j) + 1) < nI p then 0 else (if (1 : Int32) < 0 then 0 else (if (pS σ 9 0).1 (64 * (2 + j) + 1) - nI p < 1 then 0 else 1)))) = 0 := by rw [r4]; exact g1
        refine R_X8_put_20 hj K hd (fun _ _ _ _ => vp_in_nI (by omega) (by omega)) (fun _ _ => ?_) (fun _ q => absurd q g1') (fun q => absurd q r7)
        rw [if_neg (nI_pos (by omega)), r4, if_neg (nI_ge g2 (by omega)), r5, cut_c r2, nI_clamp (by omega)]
        have hE2 : Eqx [64 * (2 + j) + 1, 64 * (2 + j) + 2] [6 + j] (pS σ 9 0) (pA (pS σ 9 0) (6 + j) p (cutS so v)) := Eqx.rf.pA (by simp) _ _
        refine PC.at rfl (h9.sh (s := some (so, len, upd c p (cutS so v))) hj ⟨r4, r5, fun q hq => ?_⟩ hE2) (hE.tr (EC.of hE2 (by simp; omega) (by simp; omega)))
        show (if 6 + j = 6 + j then upd ((pS σ 9 0).2.1 (6 + j)) p (cutS so v) else _) q = upd c p (cutS so v) q
        rw [if_pos rfl]
        by_cases z : q = p
        · subst z; rw [pk_us, pk_us]
        · rw [pk_un z, pk_un z]; exact r6 q hq
  · unfold o_put
    simp only [rg0 (n := 4) (by decide) h0]
    exact PC.at rfl h9 hE
theorem in_len {x : Int32} {len : Nat} (hl : len ≤ 80) : ((if x < 0 then (0 : Int32) else (if nI len - 1 < x then 0 else 1)) = 0 ∧ ix x len = none) ∨ (¬ (if x < 0 then (0 : Int32) else (if nI len - 1 < x then 0 else 1)) = 0 ∧ ∃ p, p < len ∧ x = nI p ∧ ix x len = some p) := by
  rcases Nat.eq_zero_or_pos len with z | z
  · subst z
    refine Or.inl ⟨?_, ?_⟩
    · by_cases q : x < 0
      · rw [if_pos q]
      · rw [if_neg q, if_pos]
        obtain ⟨p, hp, rfl⟩ := nI_of q
        rw [fa_lt, nI_toInt hp, show (nI 0 - 1 : Int32).toInt = -1 by decide]
        omega
    · unfold ix
      rw [if_pos (Or.inr (Nat.zero_le _))]
  · have e : nI len - 1 = nI (len - 1) := by rw [show (1 : Int32) = nI 1 from rfl, pk_sub (by omega)]
    rw [e]
    by_cases h : (if x < 0 then (0 : Int32) else (if nI (len - 1) < x then 0 else 1)) = 0
    · have := rgm0 (n := len - 1) (by omega) h
      rw [show len - 1 + 1 = len by omega] at this
      exact Or.inl ⟨h, this⟩
    · have := rgm1 (n := len - 1) (by omega) h
      rw [show len - 1 + 1 = len by omega] at this
      exact Or.inr ⟨h, this⟩
theorem d_put {k i v : Int32} (hWf : Wf ω) (hd : 2 ≤ d) (hA : AO a) (hR : RM a σ) : Sp ω l yX9_put cX9_put 4 (some .int) d [.ref (ω.2.2.1 35), .int k, .int i, .int v] σ (PM (o_put a k i v).1 (o_put a k i v).2 σ) := by
  have h9 := hR.fl 0
  have hE : EM σ (pS σ 2240 0) := EM.rf.s (by decide) _
  refine Sp.of (by decide) (Nat.le_of_ble_eq_true rfl) hWf (fun κ K => ?_)
  by_cases h0 : (if k < 0 then (0 : Int32) else (if 3 < k then 0 else 1)) = 0
  · refine R_X9_put_0 K hd (fun q => absurd h0 q) (fun q => absurd h0 q) (fun q => absurd h0 q) (fun q => absurd h0 q) (fun q => absurd h0 q) (fun q => absurd h0 q) (fun q => absurd h0 q) (fun q => absurd h0 q) (fun _ => ?_)
    unfold o_put
    simp only [rgm0 (n := 3) (by decide) h0]
    exact PM.at rfl h9 hE
  · obtain ⟨j, hj, rfl, e⟩ := rgm1 (n := 3) (by decide) h0
    have hin : vp_in (nI j) 4 := vp_in_nI (by omega) (by omega)
    have hcl : (nI j).toNatClampNeg = j := nI_clamp (by omega)
    have hj4 : j < 4 := by omega
    rcases shM_row hR hj4 hA with ⟨r1, r2⟩ | ⟨so, len, c, r1, r2, r3, r4, r5, r6, r7⟩
    · have r2' : σ.2.1 36 (nI j).toNatClampNeg = -9 := by rw [hcl]; exact r2
      refine R_X9_put_0 K hd (fun _ => hin) (fun _ q => absurd r2' q) (fun _ q => absurd r2' q) (fun _ q => absurd r2' q) (fun _ q => absurd r2' q) (fun _ q => absurd r2' q) (fun _ q => absurd r2' q) (fun _ _ => ?_) (fun q => absurd q h0)
      have ho : o_put a (nI j) i v = (-11, setFl a 1) := by unfold o_put; simp only [e, r1]
      rw [ho, pS_over]
      exact PM.at rfl (hR.fl 1) (EM.rf.s (by decide) _)
    · have r7' : ¬ σ.2.1 36 (nI j).toNatClampNeg = -9 := by rw [hcl]; exact r7
      have e37 : (pS σ 2240 0).2.1 37 (nI j).toNatClampNeg = nI len := by rw [hcl]; exact r5
      rcases in_len (x := i) r3 with ⟨g1, g2⟩ | ⟨g1, p, g2, g3, g4⟩
      · have ho : o_put a (nI j) i v = (-13, setFl a 3) := by unfold o_put; simp only [e, r1, g2]
        have g1' : (if i < 0 then (0 : Int32) else (if (pS σ 2240 0).2.1 37 (nI j).toNatClampNeg - 1 < i then 0 else 1)) = 0 := by rw [e37]; exact g1
        refine R_X9_put_0 K hd (fun _ => hin) (fun _ _ => hin) (fun _ _ q => absurd g1' q) (fun _ _ q => absurd g1' q) (fun _ _ q => absurd g1' q) (fun _ _ q => absurd g1' q) (fun _ _ _ => ?_) (fun _ q => absurd q r7') (fun q => absurd q h0)
        rw [ho, pS_over]
        exact PM.at rfl (hR.fl 3) (EM.rf.s (by decide) _)
      · subst g3
        have ho : o_put a (nI j) (nI p) v = (1, setSh (setFl a 0) j (some (so, len, upd c p (cutS so v)))) := by unfold o_put; simp only [e, r1, g4]
        have g1' : ¬ (if nI p < 0 then (0 : Int32) else (if (pS σ 2240 0).2.1 37 (nI j).toNatClampNeg - 1 < nI p then 0 else 1)) = 0 := by rw [e37]; exact g1
        have ei : (80 : Int32) * nI j + nI p = nI (80 * j + p) := by rw [show (80 : Int32) = nI 80 from rfl, pk_mul, nI_add]
        refine R_X9_put_0 K hd (fun _ => hin) (fun _ _ => hin) (fun _ _ _ => hin) (fun _ _ _ _ => hin) (fun _ _ _ => by rw [ei]; exact vp_in_nI (by omega) (by omega)) (fun _ _ _ => ?_) (fun _ _ q => absurd q g1') (fun _ q => absurd q r7') (fun q => absurd q h0)
        rw [ho, ei, nI_clamp (by omega), hcl, r4, cut_c r2]
        have hE2 : Eqx [] [36, 37, 38] (pS σ 2240 0) (pA (pS σ 2240 0) 38 (80 * j + p) (cutS so v)) := Eqx.rf.pA (by simp) _ _
        refine PM.at rfl (h9.sh (j := j) (s := some (so, len, upd c p (cutS so v))) ⟨r4, r5, fun q hq => ?_⟩ (fun i hi hij => ?_) hE2) (hE.tr (EM.of hE2 (by decide) (by decide)))
        · show upd (σ.2.1 38) (80 * j + p) (cutS so v) (80 * j + q) = upd c p (cutS so v) q
          by_cases z : q = p
          · subst z; rw [pk_us, pk_us]
          · rw [pk_un z, pk_un (by omega)]; exact r6 q hq
        · exact shM_other (j := j) (hR.2.2.2 i hi) (hA.2 i hi) hij rfl rfl (fun q hq => show upd (σ.2.1 38) (80 * j + p) (cutS so v) q = _ from pk_un (by omega))
/-! cell -/
def PCJ (r : Int64) (a : Ab) (σ : St) : Option Value → St → Prop := fun v σ' => v = some (.long r) ∧ RC a σ' ∧ EC σ σ'
def PMJ (r : Int64) (a : Ab) (σ : St) : Option Value → St → Prop := fun v σ' => v = some (.long r) ∧ RM a σ' ∧ EM σ σ'
def shAt (s : Shv) (p : Nat) : Int32 := match s with
  | none => 0
  | some (_, _, c) => c p
def o_cell (a : Ab) (k i so : Int32) : Int64 × Ab := if (o_why a k so i 1).1 = 0 then ((shAt (ash a k.toNatClampNeg) i.toNatClampNeg).toInt64, setFl a 0) else (-9223372036854775808, (o_why a k so i 1).2)
theorem a_cell {k i so : Int32} (hA : AO a) : AO (o_cell a k i so).2 := by
  unfold o_cell
  split
  · exact hA
  · exact a_why hA
theorem c_cell {k i so : Int32} (hWf : Wf ω) (hd : 2 ≤ d) (hA : AO a) (hR : RC a σ) : Sp ω l yX8_cell cX8_cell 4 (some .long) d [.ref (ω.2.2.1 0), .int k, .int i, .int so] σ (PCJ (o_cell a k i so).1 (o_cell a k i so).2 σ) := by
  refine Sp.of (by decide) (Nat.le_of_ble_eq_true rfl) hWf (fun κ K => R_X8_cell_0 K ?_)
  refine C_X8_cell_5 K (by omega) (c_why hWf (by omega) hA hR) (fun v σ' h => ?_)
  obtain ⟨rfl, hR', hE'⟩ := h
  refine R_X8_cell_8 K (fun h0 => ?_) (fun h0 => ?_)
  · obtain ⟨w1, j, so', len, c, p, q, hj, rfl, w2, rfl, rfl, w3, w4, w5⟩ := why_0 hA h0
    rw [w1] at hR'
    have hq : q = 1 := (nI_eq (by omega) (by omega)).mp (show nI q = nI 1 from w3.symm)
    refine A_X8_cell_20 hj K ?_
    have hs := hR'.2.2.2 j hj
    have w2' : ash (setFl a 0) j = some (so', len, c) := w2
    rw [w2'] at hs
    refine R_X8_cell_21 hj K (by omega) (fun _ _ => vp_in_nI (by omega) (by omega)) ?_
    rw [if_neg (nI_pos (by omega)), hs.1, if_neg (nI_ge (by omega) (by omega)), nI_clamp (by omega), hs.2.2 p (by omega)]
    have ho : o_cell a (nI j) (nI p) (nI so') = ((c p).toInt64, setFl a 0) := by
      unfold o_cell
      rw [if_pos h0, nI_clamp (by omega), nI_clamp (by omega), w2]
      rfl
    rw [ho]
    exact ⟨rfl, hR', hE'⟩
  · have ho : o_cell a k i so = (-9223372036854775808, (o_why a k so i 1).2) := by unfold o_cell; rw [if_neg h0]
    rw [ho]
    exact ⟨rfl, hR', hE'⟩
theorem hasC_len {x : Int32} {len : Nat} (hl : len ≤ 80) : (if x < 0 then (0 : Int32) else (if nI len - 1 < x then 0 else 1)) = hasC x 1 len := by
  have hv : ∀ y : Int32, (y = 0 ∨ y = 1) → ¬ y = 0 → y = 1 := fun y h h2 => h.resolve_left h2
  have z1 : (if x < 0 then (0 : Int32) else (if nI len - 1 < x then 0 else 1)) = 0 ∨ (if x < 0 then (0 : Int32) else (if nI len - 1 < x then 0 else 1)) = 1 := by (repeat' split) <;> first | exact Or.inl rfl | exact Or.inr rfl
  have z2 : hasC x 1 len = 0 ∨ hasC x 1 len = 1 := by unfold hasC; (repeat' split) <;> first | exact Or.inl rfl | exact Or.inr rfl
  rcases in_len (x := x) hl with ⟨g1, g2⟩ | ⟨g1, p, g2, g3, g4⟩
  · rcases hasC1 (x := x) hl with ⟨f1, f2⟩ | ⟨f1, p, f2, f3, f4⟩
    · rw [g1, f1]
    · rw [g2] at f4; cases f4
  · rcases hasC1 (x := x) hl with ⟨f1, f2⟩ | ⟨f1, p, f2, f3, f4⟩
    · rw [g4] at f2; cases f2
    · rw [hv _ z1 g1, hv _ z2 f1]
theorem why_of {j s : Nat} {i n : Int32} (hj : j < 4) (hs : s < 3) {f : Nat} (h : kindS (ash a j) (nI s) i n = f) : o_why a (nI j) (nI s) i n = if f = 0 then (0, setFl a 0) else (-10 - nI f, setFl a (nI f)) := by
  unfold o_why
  simp only [ix_n hj (show 4 < 2 ^ 31 by decide), ix_n hs (show 3 < 2 ^ 31 by decide), h]
theorem cell_of {k i so : Int32} {r : Int32} {a' : Ab} (h : o_why a k so i 1 = (r, a')) (hr : ¬ r = 0) : o_cell a k i so = (-9223372036854775808, a') := by
  unfold o_cell
  rw [h, if_neg hr]
theorem d_cell {k i so : Int32} (hWf : Wf ω) (hd : 2 ≤ d) (hA : AO a) (hR : RM a σ) : Sp ω l yX9_cell cX9_cell 4 (some .long) d [.ref (ω.2.2.1 35), .int k, .int i, .int so] σ (PMJ (o_cell a k i so).1 (o_cell a k i so).2 σ) := by
  have h9 := hR.fl 0
  have hE : EM σ (pS σ 2240 0) := EM.rf.s (by decide) _
  have hov : ∀ w, pS (pS σ 2240 0) 2240 w = pS σ 2240 w := fun w => pS_over σ 2240 0 w
  refine Sp.of (by decide) (Nat.le_of_ble_eq_true rfl) hWf (fun κ K => ?_)
  by_cases h0 : (if k < 0 then (0 : Int32) else (if 3 < k then 0 else 1)) = 0
  · have ho : o_cell a k i so = (-9223372036854775808, setFl a 0) := cell_of (r := -1) (by unfold o_why; simp only [rgm0 (n := 3) (by decide) h0]) (by decide)
    rw [ho] at K
    exact R_X9_cell_0 K hd (fun _ => ⟨rfl, h9, hE⟩) (fun q => absurd h0 q) (fun q => absurd h0 q) (fun q => absurd h0 q) (fun q => absurd h0 q) (fun q => absurd h0 q) (fun q => absurd h0 q) (fun q => absurd h0 q) (fun q => absurd h0 q) (fun q => absurd h0 q) (fun q => absurd h0 q) (fun q => absurd h0 q) (fun q => absurd h0 q) (fun q => absurd h0 q) (fun q => absurd h0 q) (fun q => absurd h0 q) (fun q => absurd h0 q)
  obtain ⟨j, hj, rfl, e⟩ := rgm1 (n := 3) (by decide) h0
  have hj4 : j < 4 := by omega
  have hin : vp_in (nI j) 4 := vp_in_nI (by omega) (by omega)
  have hcl : (nI j).toNatClampNeg = j := nI_clamp (by omega)
  by_cases h1 : (if so < 0 then (0 : Int32) else (if 2 < so then 0 else 1)) = 0
  · have ho : o_cell a (nI j) i so = (-9223372036854775808, setFl a 0) := cell_of (r := -2) (by unfold o_why; simp only [e, rgm0 (n := 2) (by decide) h1]) (by decide)
    rw [ho] at K
    exact R_X9_cell_0 K hd (fun q => absurd q h0) (fun _ q => absurd h1 q) (fun _ q => absurd h1 q) (fun _ q => absurd h1 q) (fun _ q => absurd h1 q) (fun _ q => absurd h1 q) (fun _ q => absurd h1 q) (fun _ q => absurd h1 q) (fun _ q => absurd h1 q) (fun _ q => absurd h1 q) (fun _ q => absurd h1 q) (fun _ q => absurd h1 q) (fun _ q => absurd h1 q) (fun _ q => absurd h1 q) (fun _ q => absurd h1 q) (fun _ q => absurd h1 q) (fun _ _ => ⟨rfl, h9, hE⟩)
  obtain ⟨s, hs, rfl, e2⟩ := rgm1 (n := 2) (by decide) h1
  rcases shM_row hR hj4 hA with ⟨r1, r2⟩ | ⟨so', len, c, r1, r2, r3, r4, r5, r6, r7⟩
  · have r2' : σ.2.1 36 (nI j).toNatClampNeg = -9 := by rw [hcl]; exact r2
    have ho : o_cell a (nI j) i (nI s) = (-9223372036854775808, setFl a 1) := cell_of (r := -11) (by rw [why_of hj4 hs (f := 1) (by rw [r1]; rfl)]; rfl) (by decide)
    rw [ho] at K
    refine R_X9_cell_0 K hd (fun q => absurd q h0) (fun _ _ => hin) (fun _ _ _ => hin) (fun _ _ _ q => absurd r2' q) (fun _ _ _ q => absurd r2' q) (fun _ _ _ q => absurd r2' q) (fun _ _ _ q => absurd r2' q) (fun _ _ _ _ => ?_) (fun _ _ q => absurd r2' q) (fun _ _ q => absurd r2' q) (fun _ _ q => absurd r2' q) (fun _ _ q => absurd r2' q) (fun _ _ q => absurd r2' q) (fun _ _ q => absurd r2' q) (fun _ _ q => absurd r2' q) (fun _ _ q => absurd r2' q) (fun _ q => absurd q h1)
    rw [hov]
    exact ⟨rfl, hR.fl 1, EM.rf.s (by decide) _⟩
  have r7' : ¬ σ.2.1 36 (nI j).toNatClampNeg = -9 := by rw [hcl]; exact r7
  have r4' : σ.2.1 36 (nI j).toNatClampNeg = nI so' := by rw [hcl]; exact r4
  have r5' : (pS σ 2240 0).2.1 37 (nI j).toNatClampNeg = nI len := by rw [hcl]; exact r5
  by_cases h2 : σ.2.1 36 (nI j).toNatClampNeg = nI s
  · have hss : so' = s := (nI_eq (by omega) (by omega)).mp (r4'.symm.trans h2)
    subst hss
    have hcell := hasC_len (x := i) r3
    rcases hasC1 (x := i) r3 with ⟨g1, g2⟩ | ⟨g1, p, g2, g3, g4⟩
    · have g1' : (if i < 0 then (0 : Int32) else (if (pS σ 2240 0).2.1 37 (nI j).toNatClampNeg - 1 < i then 0 else 1)) = 0 := by rw [r5', hcell]; exact g1
      have ho : o_cell a (nI j) i (nI so') = (-9223372036854775808, setFl a 3) := cell_of (r := -13) (by rw [why_of hj4 hs (f := 3) (by rw [r1]; unfold kindS; simp only; rw [if_neg (by simp), if_neg (by decide), if_pos g1])]; rfl) (by decide)
      rw [ho] at K
      refine R_X9_cell_0 K hd (fun q => absurd q h0) (fun _ _ => hin) (fun _ _ q => absurd q r7') (fun _ _ q => absurd q r7') (fun _ _ q => absurd q r7') (fun _ _ q => absurd q r7') (fun _ _ q => absurd q r7') (fun _ _ q => absurd q r7') (fun _ _ _ => hin) (fun _ _ _ _ => hin) (fun _ _ _ _ _ => hin) (fun _ _ _ _ _ q => absurd g1' q) (fun _ _ _ _ _ q => absurd g1' q) (fun _ _ _ _ _ _ => ?_) (fun _ _ _ _ q => absurd q r7') (fun _ _ _ q => absurd h2 q) (fun _ q => absurd q h1)
      rw [hov]
      exact ⟨rfl, hR.fl 3, EM.rf.s (by decide) _⟩
    · subst g3
      have g1' : ¬ (if nI p < 0 then (0 : Int32) else (if (pS σ 2240 0).2.1 37 (nI j).toNatClampNeg - 1 < nI p then 0 else 1)) = 0 := by rw [r5', hcell]; exact g1
      have ei : (80 : Int32) * nI j + nI p = nI (80 * j + p) := by rw [show (80 : Int32) = nI 80 from rfl, pk_mul, nI_add]
      have hw : (o_why a (nI j) (nI so') (nI p) 1).1 = 0 := by
        rw [why_of hj4 hs (f := 0) (by rw [r1]; unfold kindS; simp only; rw [if_neg (by simp), if_neg (by decide), if_neg g1])]
        rfl
      have ho : o_cell a (nI j) (nI p) (nI so') = ((c p).toInt64, setFl a 0) := by
        unfold o_cell
        rw [if_pos hw, nI_clamp (by omega), nI_clamp (by omega), r1]
        rfl
      rw [ho] at K
      refine R_X9_cell_0 K hd (fun q => absurd q h0) (fun _ _ => hin) (fun _ _ q => absurd q r7') (fun _ _ q => absurd q r7') (fun _ _ q => absurd q r7') (fun _ _ q => absurd q r7') (fun _ _ q => absurd q r7') (fun _ _ q => absurd q r7') (fun _ _ _ => hin) (fun _ _ _ _ => hin) (fun _ _ _ _ _ => hin) (fun _ _ _ _ _ _ => by rw [ei]; exact vp_in_nI (by omega) (by omega)) (fun _ _ _ _ _ _ => ?_) (fun _ _ _ _ _ q => absurd q g1') (fun _ _ _ _ q => absurd q r7') (fun _ _ _ q => absurd h2 q) (fun _ q => absurd q h1)
      rw [ei, nI_clamp (by omega), r6 p g2]
      exact ⟨rfl, h9, hE⟩
  · have ho : o_cell a (nI j) i (nI s) = (-9223372036854775808, setFl a 2) := cell_of (r := -12) (by rw [why_of hj4 hs (f := 2) (by rw [r1]; unfold kindS; simp only; rw [if_pos (fun z => h2 (r4'.trans z))])]; rfl) (by decide)
    rw [ho] at K
    refine R_X9_cell_0 K hd (fun q => absurd q h0) (fun _ _ => hin) (fun _ _ q => absurd q r7') (fun _ _ q => absurd q r7') (fun _ _ q => absurd q r7') (fun _ _ q => absurd q r7') (fun _ _ q => absurd q r7') (fun _ _ q => absurd q r7') (fun _ _ _ => hin) (fun _ _ _ q => absurd q h2) (fun _ _ _ q => absurd q h2) (fun _ _ _ q => absurd q h2) (fun _ _ _ q => absurd q h2) (fun _ _ _ q => absurd q h2) (fun _ _ _ q => absurd q h2) (fun _ _ _ _ => ?_) (fun _ q => absurd q h1)
    rw [hov]
    exact ⟨rfl, hR.fl 2, EM.rf.s (by decide) _⟩
end SHEETS2
