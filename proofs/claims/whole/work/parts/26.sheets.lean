/-! ===== sheets: whyNotTaken, sheet, lose, put, cell ===== -/
section SHEETS
variable {ω : WT} {l : Launch} {d : Nat} {a : Ab} {σ : St}
abbrev setSh (a : Ab) (j : Nat) (s : Shv) : Ab := (a.1, a.2.1, fun k => if k = j then s else ash a k, a.2.2.2)
theorem AO.sh (hA : AO a) {j : Nat} {s : Shv} (hs : ShO s) : AO (setSh a j s) := ⟨hA.1, fun k hk => by
  show ShO (if k = j then s else ash a k)
  by_cases e : k = j
  · rw [if_pos e]; exact hs
  · rw [if_neg e]; exact hA.2 k hk⟩
theorem RC.sh {a : Ab} {σ σ' : St} {j : Nat} {s : Shv} (hR : RC a σ) (hj : j < 4) (hS : ShC s j σ') (e : Eqx [64 * (2 + j) + 1, 64 * (2 + j) + 2] [6 + j] σ σ') : RC (setSh a j s) σ' := by
  have hk : ∀ k, k ∉ [64 * (2 + j) + 1, 64 * (2 + j) + 2] ↔ (k ≠ 64 * (2 + j) + 1 ∧ k ≠ 64 * (2 + j) + 2) := fun k => by simp
  refine ⟨hR.1.keep e (fun k z => (hk k).mpr (by simp at z; omega)) (fun k z => by simp at z ⊢; omega), by rw [e.1 8 ((hk 8).mpr (by omega))]; exact hR.2.1, by rw [e.1 9 ((hk 9).mpr (by omega))]; exact hR.2.2.1, fun i hi => ?_⟩
  show ShC (if i = j then s else ash a i) i σ'
  by_cases q : i = j
  · rw [if_pos q, q]; exact hS
  · rw [if_neg q]
    exact (hR.2.2.2 i hi).keep (e.1 _ ((hk _).mpr (by omega))) (e.1 _ ((hk _).mpr (by omega))) (e.2.1 _ (by simp; omega))
theorem RM.sh {a : Ab} {σ σ' : St} {j : Nat} {s : Shv} (hR : RM a σ) (hS : ShM s j σ') (hO : ∀ i, i < 4 → i ≠ j → ShM (ash a i) i σ') (e : Eqx [] [36, 37, 38] σ σ') : RM (setSh a j s) σ' := by
  refine ⟨hR.1.keep e (by decide) (by decide), by rw [e.1 2241 (by decide)]; exact hR.2.1, by rw [e.1 2240 (by decide)]; exact hR.2.2.1, fun i hi => ?_⟩
  show ShM (if i = j then s else ash a i) i σ'
  by_cases q : i = j
  · rw [if_pos q, q]; exact hS
  · rw [if_neg q]; exact hO i hi q
theorem shC_row {a : Ab} {σ : St} {j : Nat} (hR : RC a σ) (hj : j < 4) (hA : AO a) : (ash a j = none ∧ (if σ.1 (64 * (2 + j) + 1) = -1 then (0 : Int32) else 1) = 0) ∨ (∃ so n c, ash a j = some (so, n, c) ∧ so ≤ 2 ∧ n ≤ 80 ∧ σ.1 (64 * (2 + j) + 1) = nI n ∧ σ.1 (64 * (2 + j) + 2) = nI so ∧ (∀ i, i < n → σ.2.1 (6 + j) i = c i) ∧ ¬ (if σ.1 (64 * (2 + j) + 1) = -1 then (0 : Int32) else 1) = 0) := by
  have h := hR.2.2.2 j hj
  have ho := hA.2 j hj
  cases e : ash a j with
  | none =>
    rw [e] at h
    exact Or.inl ⟨rfl, if_pos h⟩
  | some s =>
    obtain ⟨so, n, c⟩ := s
    rw [e] at h ho
    refine Or.inr ⟨so, n, c, rfl, ho.1, ho.2, h.1, h.2.1, h.2.2, ?_⟩
    rw [h.1, if_neg]
    · decide
    · intro z
      have h1 := congrArg Int32.toInt z
      rw [nI_toInt (by have := ho.2; omega)] at h1
      have h2 : (-1 : Int32).toInt = -1 := by decide
      omega
/-- cells from x on, n of them, in a row of len cells -/
def hasC (x n : Int32) (len : Nat) : Int32 := if x < 0 then 0 else (if nI len < x then 0 else (if n < 0 then 0 else (if nI len - x < n then 0 else 1)))
theorem hasC_1 {x n : Int32} {len : Nat} (hl : len ≤ 80) (h : ¬ hasC x n len = 0) : ∃ p q, x = nI p ∧ n = nI q ∧ p + q ≤ len := by
  unfold hasC at h
  by_cases h1 : x < 0
  · rw [if_pos h1] at h; exact absurd rfl h
  rw [if_neg h1] at h
  by_cases h2 : nI len < x
  · rw [if_pos h2] at h; exact absurd rfl h
  rw [if_neg h2] at h
  by_cases h3 : n < 0
  · rw [if_pos h3] at h; exact absurd rfl h
  rw [if_neg h3] at h
  by_cases h4 : nI len - x < n
  · rw [if_pos h4] at h; exact absurd rfl h
  obtain ⟨p, hp, rfl⟩ := nI_of h1
  obtain ⟨q, hq, rfl⟩ := nI_of h3
  have h5 : p ≤ len := by
    rcases Nat.lt_or_ge len p with z | z
    · exact absurd (nI_lt z hp) h2
    · exact z
  rw [pk_sub h5, nI_ltI (by omega) hq] at h4
  exact ⟨p, q, rfl, rfl, by omega⟩
theorem hasC_0 {p q len : Nat} (hl : len ≤ 80) (h : p + q ≤ len) : hasC (nI p) (nI q) len = 1 := by
  unfold hasC
  rw [if_neg (nI_pos (by omega)), if_neg (fun z => by have := (nI_ltI (by omega) (by omega)).mp z; omega), if_neg (nI_pos (by omega)), pk_sub (by omega), if_neg (fun z => by have := (nI_ltI (by omega) (by omega)).mp z; omega)]
def kindS (s : Shv) (sort i n : Int32) : Nat := match s with
  | none => 1
  | some (so, len, _) => if nI so ≠ sort then 2 else if n < 0 then 4 else if hasC i n len = 0 then 3 else 0
def o_why (a : Ab) (k sort i n : Int32) : Int32 × Ab := match ix k 4 with
  | none => (-1, setFl a 0)
  | some j => match ix sort 3 with
    | none => (-2, setFl a 0)
    | some _ => if kindS (ash a j) sort i n = 0 then (0, setFl a 0) else (-10 - nI (kindS (ash a j) sort i n), setFl a (nI (kindS (ash a j) sort i n)))
theorem a_why {k sort i n : Int32} (hA : AO a) : AO (o_why a k sort i n).2 := by
  unfold o_why
  cases ix k 4 with
  | none => exact hA
  | some j =>
    cases ix sort 3 with
    | none => exact hA
    | some s => simp only; split <;> exact hA
theorem why_0 {k sort i n : Int32} (hA : AO a) (h : (o_why a k sort i n).1 = 0) : (o_why a k sort i n).2 = setFl a 0 ∧ ∃ j so len c p q, j < 4 ∧ k = nI j ∧ ash a j = some (so, len, c) ∧ sort = nI so ∧ i = nI p ∧ n = nI q ∧ p + q ≤ len ∧ len ≤ 80 := by
  unfold o_why at h ⊢
  cases e : ix k 4 with
  | none => rw [e] at h; exact absurd (show (-1 : Int32) = 0 from h) (by decide)
  | some j =>
    rw [e] at h
    obtain ⟨hj, rfl, -⟩ := ix_some e
    cases e2 : ix sort 3 with
    | none => rw [e2] at h; exact absurd (show (-2 : Int32) = 0 from h) (by decide)
    | some s =>
      rw [e2] at h
      simp only at h ⊢
      by_cases z : kindS (ash a j) sort i n = 0
      · rw [if_pos z]
        refine ⟨rfl, ?_⟩
        cases e3 : ash a j with
        | none => rw [e3] at z; exact absurd (show (1 : Nat) = 0 from z) (by decide)
        | some r =>
          obtain ⟨so, len, c⟩ := r
          have hl := hA.2 j hj
          rw [e3] at hl
          rw [e3] at z
          simp only [kindS] at z
          by_cases z1 : nI so ≠ sort
          · rw [if_pos z1] at z; exact absurd z (by decide)
          rw [if_neg z1] at z
          by_cases z2 : n < 0
          · rw [if_pos z2] at z; exact absurd z (by decide)
          rw [if_neg z2] at z
          by_cases z3 : hasC i n len = 0
          · rw [if_pos z3] at z; exact absurd z (by decide)
          obtain ⟨p, q, h1, h2, h3⟩ := hasC_1 hl.2 z3
          exact ⟨j, so, len, c, p, q, hj, rfl, e3, (Decidable.not_not.mp z1).symm, h1, h2, h3, hl.2⟩
      · rw [if_neg z] at h
        exfalso
        have hk : kindS (ash a j) sort i n ≤ 4 := by
          unfold kindS
          split
          · decide
          · split
            · decide
            · split
              · decide
              · split <;> decide
        have : ∀ f, f ≤ 4 → ¬ (-10 - nI f = 0) := by decide
        exact this _ hk h
theorem c_why {k sort i n : Int32} (hWf : Wf ω) (hd : 1 ≤ d) (hA : AO a) (hR : RC a σ) : Sp ω l yX8_whyNotTaken cX8_whyNotTaken 6 (some .int) d [.ref (ω.2.2.1 0), .int k, .int sort, .int i, .int n] σ (PC (o_why a k sort i n).1 (o_why a k sort i n).2 σ) := by
  have hE : EC σ (pS σ 9 0) := EC.rf.s (by decide) _
  refine Sp.of (by decide) (Nat.le_of_ble_eq_true rfl) hWf (fun κ K => R_X8_whyNotTaken_0 K hd (fun h0 h1 => ?_) (fun h0 h1 => ?_) (fun h0 => ?_))
  · obtain ⟨j, hj, rfl, e⟩ := rg1 (n := 4) (by decide) h0
    obtain ⟨s, hs, rfl, e2⟩ := rg1 (n := 3) (by decide) h1
    refine A_X8_whyNotTaken_29 hj K ?_
    have ho : o_why a (nI j) (nI s) i n = if kindS (ash a j) (nI s) i n = 0 then (0, setFl a 0) else (-10 - nI (kindS (ash a j) (nI s) i n), setFl a (nI (kindS (ash a j) (nI s) i n))) := by
      unfold o_why; simp only [e, e2]
    rw [ho] at K
    have h0 := hR.fl 0
    have hov : ∀ v, pS (pS σ 9 0) 9 v = pS σ 9 v := fun v => pS_over σ 9 0 v
    rcases shC_row h0 hj hA with ⟨r1, r2⟩ | ⟨so, len, c, r1, r2, r3, r4, r5, r6, r7⟩
    · have r1 : ash a j = none := r1
      rw [r1] at K
      refine R_X8_whyNotTaken_30 hj K hd (fun _ q => absurd r2 q) (fun _ q => absurd r2 q) (fun _ q => absurd r2 q) (fun _ _ => ?_) (fun q => absurd r2 q) (fun q => absurd r2 q) (fun q => absurd r2 q) (fun q => absurd r2 q) (fun q => absurd r2 q)
      rw [hov]
      exact ⟨rfl, hR.fl _, EC.rf.s (by decide) _⟩
    · have r1 : ash a j = some (so, len, c) := r1
      rw [r1] at K
      refine R_X8_whyNotTaken_30 hj K hd (fun q => absurd q r7) (fun q => absurd q r7) (fun q => absurd q r7) (fun q => absurd q r7) (fun _ q2 _ q3 q4 => ?_) (fun _ q2 _ q3 q4 => ?_) (fun _ q2 _ q3 => ?_) (fun _ _ q => absurd q r7) (fun _ q2 => ?_)
      · rw [r5] at q2
        rw [r4] at q4
        have q3' : ¬ n < 0 := fun z => by rw [fa_lt] at z; rw [fa_le] at q3; omega
        have hk : kindS (some (so, len, c)) (nI s) i n = 3 := by
          unfold kindS
          simp only
          rw [if_neg (by rw [q2]; simp), if_neg q3', if_pos (show hasC i n len = 0 from q4)]
        rw [hk, hov]
        exact ⟨rfl, hR.fl _, EC.rf.s (by decide) _⟩
      · rw [r5] at q2
        rw [r4] at q4
        have q3' : ¬ n < 0 := fun z => by rw [fa_lt] at z; rw [fa_le] at q3; omega
        have hk : kindS (some (so, len, c)) (nI s) i n = 0 := by
          unfold kindS
          simp only
          rw [if_neg (by rw [q2]; simp), if_neg q3', if_neg (show ¬ hasC i n len = 0 from q4)]
        rw [hk]
        exact ⟨rfl, h0, hE⟩
      · rw [r5] at q2
        have q3' : n < 0 := by rw [fa_lt]; rw [fa_le] at q3; omega
        have hk : kindS (some (so, len, c)) (nI s) i n = 4 := by
          unfold kindS
          simp only
          rw [if_neg (by rw [q2]; simp), if_pos q3']
        rw [hk, hov]
        exact ⟨rfl, hR.fl _, EC.rf.s (by decide) _⟩
      · rw [r5] at q2
        have hk : kindS (some (so, len, c)) (nI s) i n = 2 := by
          unfold kindS
          simp only
          rw [if_pos q2]
        rw [hk, hov]
        exact ⟨rfl, hR.fl _, EC.rf.s (by decide) _⟩
  · obtain ⟨j, hj, rfl, e⟩ := rg1 (n := 4) (by decide) h0
    have e2 := rg0 (n := 3) (by decide) h1
    have ho : o_why a (nI j) sort i n = (-2, setFl a 0) := by unfold o_why; simp only [e, e2]
    rw [ho]
    exact ⟨rfl, hR.fl 0, hE⟩
  · have e := rg0 (n := 4) (by decide) h0
    have ho : o_why a k sort i n = (-1, setFl a 0) := by unfold o_why; simp only [e]
    rw [ho]
    exact ⟨rfl, hR.fl 0, hE⟩
/-! sheet -/
def o_sheet (a : Ab) (k so n : Int32) : Int32 × Ab := match ix k 4 with
  | none => (-1, setFl a 0)
  | some j => match ix so 3 with
    | none => (-2, setFl a 0)
    | some s => if 80 < n then (-2, setFl a 0) else if n < 0 then (-14, setFl a 4) else (1, setSh (setFl a 0) j (some (s, n.toNatClampNeg, fun _ => 0)))
theorem le80 {n : Int32} (h : n ≤ 80) (h0 : 0 ≤ n) : ∃ q, q ≤ 80 ∧ n = nI q := by
  have : ¬ n < 0 := fun z => by rw [fa_lt] at z; rw [fa_le] at h0; omega
  obtain ⟨q, hq, rfl⟩ := nI_of this
  exact ⟨q, (nI_leI (b := 80) hq (by omega)).mp h, rfl⟩
theorem c_sheet {k so n : Int32} (hWf : Wf ω) (hd : 2 ≤ d) (hA : AO a) (hR : RC a σ) : Sp ω l yX8_sheet cX8_sheet 4 (some .int) d [.ref (ω.2.2.1 0), .int k, .int so, .int n] σ (PC (o_sheet a k so n).1 (o_sheet a k so n).2 σ) := by
  have h9 := hR.fl 0
  have hE : EC σ (pS σ 9 0) := EC.rf.s (by decide) _
  refine Sp.of (by decide) (Nat.le_of_ble_eq_true rfl) hWf (fun κ K => R_X8_sheet_0 K (by omega) (fun h0 h1 => ?_) (fun h0 h1 h2 h3 => ?_) (fun h0 h1 h2 h3 => ?_) (fun h0 h1 h2 => ?_) (fun h0 => ?_))
  · obtain ⟨j, hj, rfl, e⟩ := rg1 (n := 4) (by decide) h0
    unfold o_sheet
    simp only [e, rg0 (n := 3) (by decide) h1]
    exact PC.at rfl h9 hE
  · obtain ⟨j, hj, rfl, e⟩ := rg1 (n := 4) (by decide) h0
    obtain ⟨s, hs, rfl, e2⟩ := rg1 (n := 3) (by decide) h1
    obtain ⟨q, hq, rfl⟩ := le80 h2 h3
    have ho : o_sheet a (nI j) (nI s) (nI q) = (1, setSh (setFl a 0) j (some (s, q, fun _ => 0))) := by
      unfold o_sheet
      simp only [e, e2]
      rw [if_neg (fun z => by have := (nI_ltI (a := 80) (by omega) (by omega)).mp z; omega), if_neg (nI_pos (by omega)), nI_clamp (by omega)]
    rw [ho] at K
    refine A_X8_sheet_45 hj K (R_X8_sheet_46 hj K ?_)
    refine C_X8_sheet_48 hj K (by omega) (m_X6_renew hj hWf (by omega)) (go_V ?_)
    have hE2 : Eqx [64 * (2 + j) + 1, 64 * (2 + j) + 2] [6 + j] (pS σ 9 0) (pS (pS (pF (pS σ 9 0) (6 + j) (fillF ((pS σ 9 0).2.1 (6 + j)) 0 80)) (64 * (2 + j) + 2) (nI s)) (64 * (2 + j) + 1) (nI q)) := ((Eqx.rf.pF (by simp) _).pS (by simp) _).pS (by simp) _
    refine R_X8_sheet_51 K ⟨rfl, h9.sh hj ⟨?_, ?_, ?_⟩ hE2, hE.tr (EC.of hE2 (by simp; omega) (by simp; omega))⟩
    · simp [pS]
    · simp [pS]
    · intro i hi
      show (if 6 + j = 6 + j then fillF _ 0 80 else _) i = 0
      rw [if_pos rfl]
      simp only [fillF]
      rw [if_pos (by omega)]
  · obtain ⟨j, hj, rfl, e⟩ := rg1 (n := 4) (by decide) h0
    obtain ⟨s, hs, rfl, e2⟩ := rg1 (n := 3) (by decide) h1
    have h4 : ¬ 80 < n := fun z => by rw [fa_lt] at z; rw [fa_le] at h2; omega
    have h5 : n < 0 := by rw [fa_lt]; rw [fa_le] at h3; omega
    unfold o_sheet
    simp only [e, e2, if_neg h4, if_pos h5]
    rw [pS_over]
    exact PC.at rfl (hR.fl 4) (EC.rf.s (by decide) _)
  · obtain ⟨j, hj, rfl, e⟩ := rg1 (n := 4) (by decide) h0
    obtain ⟨s, hs, rfl, e2⟩ := rg1 (n := 3) (by decide) h1
    have h4 : 80 < n := by rw [fa_lt]; rw [fa_le] at h2; omega
    unfold o_sheet
    simp only [e, e2, if_pos h4]
    exact PC.at rfl h9 hE
  · unfold o_sheet
    simp only [rg0 (n := 4) (by decide) h0]
    exact PC.at rfl h9 hE
theorem a_sheet {k so n : Int32} (hA : AO a) : AO (o_sheet a k so n).2 := by
  unfold o_sheet
  cases ix k 4 with
  | none => exact hA
  | some j =>
    cases e : ix so 3 with
    | none => exact hA
    | some s =>
      have hs := (ix_some e).1
      simp only
      split
      · exact hA
      · split
        · exact hA
        · rename_i h1 h2
          obtain ⟨q, hq, rfl⟩ := nI_of h2
          have h3 : ¬ 80 < q := fun z => h1 (nI_lt z hq)
          exact AO.sh (a := setFl a 0) hA ⟨by omega, by rw [nI_clamp hq]; omega⟩
theorem sheetM_loop {κ : KT} {j : Nat} {post : Option Value → St → Prop} (hj : j < 4) (K : Cm ω κ l yX9_sheet cX9_sheet 5 d (some .int) post) (fin : ∀ σ', Eqx [] [38] σ σ' → (∀ p, 80 * j ≤ p → p < 80 * j + 80 → σ'.2.1 38 p = 0) → (∀ p, (p < 80 * j ∨ 80 * j + 80 ≤ p) → σ'.2.1 38 p = σ.2.1 38 p) → post (some (.int 1)) σ') :
    ∀ m i σq, i + m = 80 → Eqx [] [38] σ σq → (∀ p, 80 * j ≤ p → p < 80 * j + i → σq.2.1 38 p = 0) → (∀ p, (p < 80 * j ∨ 80 * j + 80 ≤ p) → σq.2.1 38 p = σ.2.1 38 p) → V ω κ 57 [(0, .ref (ω.2.2.1 35)), (1, .int (nI j)), (4, .int (nI i))] [] σq
  | 0, i, σq, h, hE, h1, h2 => by
    obtain rfl : i = 80 := by omega
    exact R_X9_sheet_57 K (fun _ => fin σq hE h1 h2) (fun h => absurd (by decide) h) (fun h => absurd (by decide) h)
  | m + 1, i, σq, h, hE, h1, h2 => by
    have e : (80 : Int32) * nI j + nI i = nI (80 * j + i) := by rw [show (80 : Int32) = nI 80 from rfl, pk_mul, nI_add]
    refine R_X9_sheet_57 K (fun z => absurd ((nI_leI (a := 80) (by omega) (by omega)).mp z) (by omega)) (fun _ => by rw [e]; exact vp_in_nI (by omega) (by omega)) (fun _ => ?_)
    rw [e, nI_1, nI_clamp (by omega)]
    refine sheetM_loop hj K fin m (i + 1) _ (by omega) (hE.pA (by simp) _ _) (fun p hp1 hp2 => ?_) (fun p hp => ?_)
    · show upd (σq.2.1 38) (80 * j + i) 0 p = 0
      by_cases z : p = 80 * j + i
      · rw [z, pk_us]
      · rw [pk_un z]; exact h1 p hp1 (by omega)
    · show upd (σq.2.1 38) (80 * j + i) 0 p = _
      rw [pk_un (by omega)]; exact h2 p hp
theorem shM_other {s : Shv} {i j : Nat} {σ σ' : St} (h : ShM s i σ) (hs : ShO s) (hij : i ≠ j) (h36 : σ'.2.1 36 i = σ.2.1 36 i) (h37 : σ'.2.1 37 i = σ.2.1 37 i) (h38 : ∀ p, (p < 80 * j ∨ 80 * j + 80 ≤ p) → σ'.2.1 38 p = σ.2.1 38 p) : ShM s i σ' := by
  match s, h, hs with
  | none, h, _ => exact h36.trans h
  | some (so, n, c), h, hs =>
    exact ⟨h36.trans h.1, h37.trans h.2.1, fun p hp => by rw [h38 _ (by have := hs.2; omega)]; exact h.2.2 p hp⟩
theorem d_sheet {k so n : Int32} (hWf : Wf ω) (hd : 2 ≤ d) (hA : AO a) (hR : RM a σ) : Sp ω l yX9_sheet cX9_sheet 5 (some .int) d [.ref (ω.2.2.1 35), .int k, .int so, .int n] σ (PM (o_sheet a k so n).1 (o_sheet a k so n).2 σ) := by
  have h9 := hR.fl 0
  have hE : EM σ (pS σ 2240 0) := EM.rf.s (by decide) _
  refine Sp.of (by decide) (Nat.le_of_ble_eq_true rfl) hWf (fun κ K => R_X9_sheet_0 K (by omega) (fun h0 h1 => ?_) (fun h0 h1 h2 h3 => ?_) (fun h0 h1 h2 h3 => ?_) (fun h0 h1 h2 h3 => ?_) (fun h0 h1 h2 h3 => ?_) (fun h0 h1 h2 => ?_) (fun h0 => ?_))
  · obtain ⟨j, hj, rfl, e⟩ := rgm1 (n := 3) (by decide) h0
    unfold o_sheet
    simp only [e, rgm0 (n := 2) (by decide) h1]
    exact PM.at rfl h9 hE
  · obtain ⟨j, hj, rfl, e⟩ := rgm1 (n := 3) (by decide) h0
    exact vp_in_nI (by omega) (by omega)
  · obtain ⟨j, hj, rfl, e⟩ := rgm1 (n := 3) (by decide) h0
    exact vp_in_nI (by omega) (by omega)
  · obtain ⟨j, hj, rfl, e⟩ := rgm1 (n := 3) (by decide) h0
    obtain ⟨s, hs, rfl, e2⟩ := rgm1 (n := 2) (by decide) h1
    obtain ⟨q, hq, rfl⟩ := le80 h2 h3
    have ho : o_sheet a (nI j) (nI s) (nI q) = (1, setSh (setFl a 0) j (some (s, q, fun _ => 0))) := by
      unfold o_sheet
      simp only [e, e2]
      rw [if_neg (fun z => by have := (nI_ltI (a := 80) (by omega) (by omega)).mp z; omega), if_neg (nI_pos (by omega)), nI_clamp (by omega)]
    rw [ho] at K
    rw [nI_clamp (by omega)]
    refine sheetM_loop (σ := pA (pA (pS σ 2240 0) 36 j (nI s)) 37 j (nI q)) hj K (fun σ' hE2 hz ho => ?_) 80 0 _ rfl Eqx.rf (fun p h1 h2 => absurd h2 (by omega)) (fun p _ => rfl)
    have hE3 : Eqx [] [36, 37, 38] (pS σ 2240 0) σ' := ((Eqx.rf.pA (by simp) _ _).pA (by simp) _ _).tr (hE2.mono (by simp) (by simp))
    have k36 : ∀ p, σ'.2.1 36 p = upd (σ.2.1 36) j (nI s) p := fun p => by rw [hE2.2.1 36 (by decide)]; rfl
    have k37 : ∀ p, σ'.2.1 37 p = upd (σ.2.1 37) j (nI q) p := fun p => by rw [hE2.2.1 37 (by decide)]; rfl
    refine ⟨rfl, h9.sh ⟨by rw [k36, pk_us], by rw [k37, pk_us], fun i hi => hz _ (by omega) (by omega)⟩ (fun i hi hij => ?_) hE3, hE.tr (EM.of hE3 (by decide) (by decide))⟩
    exact shM_other (h9.2.2.2 i hi) (hA.2 i hi) hij (by rw [k36, pk_un hij]; rfl) (by rw [k37, pk_un hij]; rfl) (fun p hp => ho p hp)
  · obtain ⟨j, hj, rfl, e⟩ := rgm1 (n := 3) (by decide) h0
    obtain ⟨s, hs, rfl, e2⟩ := rgm1 (n := 2) (by decide) h1
    have h4 : ¬ 80 < n := fun z => by rw [fa_lt] at z; rw [fa_le] at h2; omega
    have h5 : n < 0 := by rw [fa_lt]; rw [fa_le] at h3; omega
    unfold o_sheet
    simp only [e, e2, if_neg h4, if_pos h5]
    rw [pS_over]
    exact PM.at rfl (hR.fl 4) (EM.rf.s (by decide) _)
  · obtain ⟨j, hj, rfl, e⟩ := rgm1 (n := 3) (by decide) h0
    obtain ⟨s, hs, rfl, e2⟩ := rgm1 (n := 2) (by decide) h1
    have h4 : 80 < n := by rw [fa_lt]; rw [fa_le] at h2; omega
    unfold o_sheet
    simp only [e, e2, if_pos h4]
    exact PM.at rfl h9 hE
  · unfold o_sheet
    simp only [rgm0 (n := 3) (by decide) h0]
    exact PM.at rfl h9 hE
end SHEETS
