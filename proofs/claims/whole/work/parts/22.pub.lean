/-! ===== the state as the document has it; both systems hold it; small calls ===== -/
abbrev Shv : Type := Option (Nat × Nat × (Nat → Int32))
/-- TRACE, the latest FAULT, the SHEETS (sort, length, cells), the TOWN -/
abbrev Ab : Type := Int32 × Int32 × (Nat → Shv) × Tn
abbrev atr (a : Ab) : Int32 := a.1
abbrev afl (a : Ab) : Int32 := a.2.1
abbrev ash (a : Ab) : Nat → Shv := a.2.2.1
abbrev att (a : Ab) : Tn := a.2.2.2
def ShO : Shv → Prop
  | none => True
  | some (so, n, _) => so ≤ 2 ∧ n ≤ 80
def AO (a : Ab) : Prop := TO (att a) ∧ ∀ j, j < 4 → ShO (ash a j)
def ShC (s : Shv) (j : Nat) (σ : St) : Prop := match s with
  | none => σ.1 (64 * (2 + j) + 1) = -1
  | some (so, n, c) => σ.1 (64 * (2 + j) + 1) = nI n ∧ σ.1 (64 * (2 + j) + 2) = nI so ∧ ∀ i, i < n → σ.2.1 (6 + j) i = c i
def ShM (s : Shv) (j : Nat) (σ : St) : Prop := match s with
  | none => σ.2.1 36 j = -9
  | some (so, n, c) => σ.2.1 36 j = nI so ∧ σ.2.1 37 j = nI n ∧ ∀ i, i < n → σ.2.1 38 (80 * j + i) = c i
def RC (a : Ab) (σ : St) : Prop := TC (att a) σ ∧ σ.1 8 = atr a ∧ σ.1 9 = afl a ∧ ∀ j, j < 4 → ShC (ash a j) j σ
def RM (a : Ab) (σ : St) : Prop := TM (att a) σ ∧ σ.1 2241 = atr a ∧ σ.1 2240 = afl a ∧ ∀ j, j < 4 → ShM (ash a j) j σ
def EC (σ σ' : St) : Prop := (∀ k, 2240 ≤ k → σ'.1 k = σ.1 k) ∧ (∀ k, 35 ≤ k → σ'.2.1 k = σ.2.1 k) ∧ (∀ k, 2240 ≤ k → σ'.2.2.1 k = σ.2.2.1 k) ∧ ∀ k, 35 ≤ k → σ'.2.2.2 k = σ.2.2.2 k
def EM (σ σ' : St) : Prop := (∀ k, k < 2240 → σ'.1 k = σ.1 k) ∧ (∀ k, k < 35 → σ'.2.1 k = σ.2.1 k) ∧ (∀ k, k < 2240 → σ'.2.2.1 k = σ.2.2.1 k) ∧ ∀ k, k < 35 → σ'.2.2.2 k = σ.2.2.2 k
theorem EC.of {ks as : List Nat} {σ σ' : St} (h : Eqx ks as σ σ') (hk : ∀ k ∈ ks, k < 2240) (ha : ∀ k ∈ as, k < 35) : EC σ σ' :=
  ⟨fun k q => h.1 k (fun z => absurd (hk k z) (by omega)), fun k q => h.2.1 k (fun z => absurd (ha k z) (by omega)), fun k q => h.2.2.1 k (fun z => absurd (hk k z) (by omega)), fun k q => h.2.2.2 k (fun z => absurd (ha k z) (by omega))⟩
theorem EM.of {ks as : List Nat} {σ σ' : St} (h : Eqx ks as σ σ') (hk : ∀ k ∈ ks, 2240 ≤ k) (ha : ∀ k ∈ as, 35 ≤ k) : EM σ σ' :=
  ⟨fun k q => h.1 k (fun z => absurd (hk k z) (by omega)), fun k q => h.2.1 k (fun z => absurd (ha k z) (by omega)), fun k q => h.2.2.1 k (fun z => absurd (hk k z) (by omega)), fun k q => h.2.2.2 k (fun z => absurd (ha k z) (by omega))⟩
theorem EC.rf {σ : St} : EC σ σ := ⟨fun _ _ => rfl, fun _ _ => rfl, fun _ _ => rfl, fun _ _ => rfl⟩
theorem EM.rf {σ : St} : EM σ σ := ⟨fun _ _ => rfl, fun _ _ => rfl, fun _ _ => rfl, fun _ _ => rfl⟩
theorem EC.tr {σ σ1 σ2 : St} (h : EC σ σ1) (h2 : EC σ1 σ2) : EC σ σ2 := ⟨fun k q => (h2.1 k q).trans (h.1 k q), fun k q => (h2.2.1 k q).trans (h.2.1 k q), fun k q => (h2.2.2.1 k q).trans (h.2.2.1 k q), fun k q => (h2.2.2.2 k q).trans (h.2.2.2 k q)⟩
theorem EM.tr {σ σ1 σ2 : St} (h : EM σ σ1) (h2 : EM σ1 σ2) : EM σ σ2 := ⟨fun k q => (h2.1 k q).trans (h.1 k q), fun k q => (h2.2.1 k q).trans (h.2.1 k q), fun k q => (h2.2.2.1 k q).trans (h.2.2.1 k q), fun k q => (h2.2.2.2 k q).trans (h.2.2.2 k q)⟩
theorem ShC.keep {s : Shv} {j : Nat} {σ σ' : St} (h : ShC s j σ) (h1 : σ'.1 (64 * (2 + j) + 1) = σ.1 (64 * (2 + j) + 1)) (h2 : σ'.1 (64 * (2 + j) + 2) = σ.1 (64 * (2 + j) + 2)) (h3 : σ'.2.1 (6 + j) = σ.2.1 (6 + j)) : ShC s j σ' := by
  match s, h with
  | none, h => exact h1.trans h
  | some (so, n, c), h => exact ⟨h1.trans h.1, h2.trans h.2.1, by rw [h3]; exact h.2.2⟩
theorem ShM.keep {s : Shv} {j : Nat} {σ σ' : St} (h : ShM s j σ) (h1 : σ'.2.1 36 = σ.2.1 36) (h2 : σ'.2.1 37 = σ.2.1 37) (h3 : σ'.2.1 38 = σ.2.1 38) : ShM s j σ' := by
  match s, h with
  | none, h => show σ'.2.1 36 j = -9; rw [h1]; exact h
  | some (so, n, c), h => exact ⟨by rw [h1]; exact h.1, by rw [h2]; exact h.2.1, by rw [h3]; exact h.2.2⟩
abbrev kShC : List Nat := [129, 130, 193, 194, 257, 258, 321, 322]
theorem sh_key : ∀ j, j < 4 → 64 * (2 + j) + 1 ∈ kShC ∧ 64 * (2 + j) + 2 ∈ kShC ∧ 6 + j ∈ [6, 7, 8, 9] := by decide
theorem ShC.eqx {s : Shv} {j : Nat} {σ σ' : St} {ks as : List Nat} (hj : j < 4) (h : ShC s j σ) (e : Eqx ks as σ σ') (hk : ∀ k ∈ kShC, k ∉ ks) (ha : ∀ k ∈ [6, 7, 8, 9], k ∉ as) : ShC s j σ' :=
  h.keep (e.1 _ (hk _ (sh_key j hj).1)) (e.1 _ (hk _ (sh_key j hj).2.1)) (e.2.1 _ (ha _ (sh_key j hj).2.2))
theorem ShM.eqx {s : Shv} {j : Nat} {σ σ' : St} {ks as : List Nat} (h : ShM s j σ) (e : Eqx ks as σ σ') (ha : ∀ k ∈ [36, 37, 38], k ∉ as) : ShM s j σ' :=
  h.keep (e.2.1 _ (ha _ (by simp))) (e.2.1 _ (ha _ (by simp))) (e.2.1 _ (ha _ (by simp)))
theorem RC.keep {a : Ab} {σ σ' : St} {ks as : List Nat} (h : RC a σ) (e : Eqx ks as σ σ') (hk : ∀ k ∈ [8, 9, 640, 641, 642, 643, 644, 645, 646] ++ kShC, k ∉ ks) (ha : ∀ k ∈ [6, 7, 8, 9, 11, 12, 13], k ∉ as) : RC a σ' :=
  ⟨h.1.keep e (fun k z => hk k (by simp at z ⊢; omega)) (fun k z => ha k (by simp at z ⊢; omega)), by rw [e.1 8 (hk 8 (by simp))]; exact h.2.1, by rw [e.1 9 (hk 9 (by simp))]; exact h.2.2.1, fun j hj => (h.2.2.2 j hj).eqx hj e (fun k z => hk k (List.mem_append_right _ z)) (fun k z => ha k (by simp at z ⊢; omega))⟩
theorem RM.keep {a : Ab} {σ σ' : St} {ks as : List Nat} (h : RM a σ) (e : Eqx ks as σ σ') (hk : ∀ k ∈ [2240, 2241, 2245, 2246, 2249, 2250, 2251], k ∉ ks) (ha : ∀ k ∈ [36, 37, 38, 39, 40, 41], k ∉ as) : RM a σ' :=
  ⟨h.1.keep e (fun k z => hk k (by simp at z ⊢; omega)) (fun k z => ha k (by simp at z ⊢; omega)), by rw [e.1 2241 (hk _ (by simp))]; exact h.2.1, by rw [e.1 2240 (hk _ (by simp))]; exact h.2.2.1, fun j hj => (h.2.2.2 j hj).eqx e (fun k z => ha k (by simp at z ⊢; omega))⟩
/-- a call's end: its answer, the state, the other system's part as it was -/
def PC (r : Int32) (a : Ab) (σ : St) : Option Value → St → Prop := fun v σ' => v = some (.int r) ∧ RC a σ' ∧ EC σ σ'
def PM (r : Int32) (a : Ab) (σ : St) : Option Value → St → Prop := fun v σ' => v = some (.int r) ∧ RM a σ' ∧ EM σ σ'
theorem PC.at {r r' : Int32} {a a' : Ab} {σ : St} {v : Int32} {σ' : St} (h : v = r) (hR : RC a σ') (hE : EC σ σ') (hr : r = r' := by rfl) (ha : a = a' := by rfl) : PC r' a' σ (some (.int v)) σ' := ⟨by rw [h, hr], ha ▸ hR, hE⟩
theorem PM.at {r r' : Int32} {a a' : Ab} {σ : St} {v : Int32} {σ' : St} (h : v = r) (hR : RM a σ') (hE : EM σ σ') (hr : r = r' := by rfl) (ha : a = a' := by rfl) : PM r' a' σ (some (.int v)) σ' := ⟨by rw [h, hr], ha ▸ hR, hE⟩
/-- x as a number below n -/
def ix (x : Int32) (n : Nat) : Option Nat := if x < 0 ∨ n ≤ x.toNatClampNeg then none else some x.toNatClampNeg
theorem ix_n {j n : Nat} (h : j < n) (hn : n < 2 ^ 31) : ix (nI j) n = some j := by
  unfold ix
  rw [nI_clamp (by omega), if_neg]
  rintro (z | z)
  · exact nI_pos (by omega) z
  · omega
theorem ix_some {x : Int32} {n j : Nat} (h : ix x n = some j) : j < n ∧ x = nI j ∧ j < 2 ^ 31 := by
  unfold ix at h
  split at h
  · cases h
  · rename_i q
    cases h
    have q1 : ¬ x < 0 := fun z => q (Or.inl z)
    obtain ⟨j, hj, e⟩ := nI_of q1
    subst e
    rw [nI_clamp hj] at q ⊢
    exact ⟨Nat.lt_of_not_le (fun z => q (Or.inr z)), rfl, hj⟩
theorem ix_cases (x : Int32) (n : Nat) (hn : n < 2 ^ 31) : (ix x n = none ∧ (x < 0 ∨ nI n ≤ x)) ∨ ∃ j, j < n ∧ x = nI j ∧ ix x n = some j := by
  rcases pk_ix x hn with h | h | ⟨j, hj, e⟩
  · exact Or.inl ⟨by unfold ix; rw [if_pos (Or.inl h)], Or.inl h⟩
  · by_cases q : x < 0
    · exact Or.inl ⟨by unfold ix; rw [if_pos (Or.inl q)], Or.inl q⟩
    · obtain ⟨j, hj, e⟩ := nI_of q
      subst e
      have := (nI_leI hn hj).mp h
      exact Or.inl ⟨by unfold ix; rw [nI_clamp hj, if_pos (Or.inr this)], Or.inr h⟩
  · exact Or.inr ⟨j, hj, e, by rw [e]; exact ix_n hj hn⟩
theorem rg0 {x : Int32} {n : Nat} (hn : n < 2 ^ 31) (h : (if x < 0 then (0 : Int32) else (if nI n ≤ x then 0 else 1)) = 0) : ix x n = none := by
  rcases ix_cases x n hn with ⟨e, -⟩ | ⟨j, hj, rfl, -⟩
  · exact e
  · rw [if_neg (nI_pos (by omega)), if_neg (nI_ge hj hn)] at h
    exact absurd h (by decide)
theorem rg1 {x : Int32} {n : Nat} (hn : n < 2 ^ 31) (h : ¬ (if x < 0 then (0 : Int32) else (if nI n ≤ x then 0 else 1)) = 0) : ∃ j, j < n ∧ x = nI j ∧ ix x n = some j := by
  rcases ix_cases x n hn with ⟨-, e⟩ | e
  · refine absurd ?_ h
    rcases e with e | e
    · rw [if_pos e]
    · by_cases q : x < 0
      · rw [if_pos q]
      · rw [if_neg q, if_pos e]
  · exact e
theorem lt_le1 {x : Int32} {n : Nat} (hn : n + 1 < 2 ^ 31) : (nI n < x) ↔ nI (n + 1) ≤ x := by
  rw [fa_lt, fa_le, nI_toInt (by omega), nI_toInt hn]
  omega
theorem rgm0 {x : Int32} {n : Nat} (hn : n + 1 < 2 ^ 31) (h : (if x < 0 then (0 : Int32) else (if nI n < x then 0 else 1)) = 0) : ix x (n + 1) = none := by
  refine rg0 hn ?_
  by_cases q : x < 0
  · rw [if_pos q]
  · rw [if_neg q] at h ⊢
    by_cases q2 : nI n < x
    · rw [if_pos (lt_le1 hn |>.mp q2)]
    · rw [if_neg q2] at h
      exact absurd h (by decide)
theorem rgm1 {x : Int32} {n : Nat} (hn : n + 1 < 2 ^ 31) (h : ¬ (if x < 0 then (0 : Int32) else (if nI n < x then 0 else 1)) = 0) : ∃ j, j < n + 1 ∧ x = nI j ∧ ix x (n + 1) = some j := by
  refine rg1 hn (fun z => h ?_)
  by_cases q : x < 0
  · rw [if_pos q]
  · rw [if_neg q] at z ⊢
    by_cases q2 : nI (n + 1) ≤ x
    · rw [if_pos (lt_le1 hn |>.mpr q2)]
    · rw [if_neg q2] at z
      exact absurd z (by decide)
theorem tw0 {n : Nat} (hn : n < 2 ^ 31) (h : (if nI n ≤ 0 then (0 : Int32) else 1) = 0) : n = 0 := by
  rcases Nat.eq_zero_or_pos n with z | z
  · exact z
  · rw [if_neg (nI_nle z hn)] at h
    exact absurd h (by decide)
theorem tw1 {n : Nat} (h : ¬ (if nI n ≤ 0 then (0 : Int32) else 1) = 0) : n ≠ 0 := by
  intro z
  rw [z] at h
  exact h rfl
/-! ===== trace, fault, many ===== -/
section SMALL
variable {ω : WT} {l : Launch} {d : Nat} {a : Ab} {σ : St}
theorem c_trace (hWf : Wf ω) (hR : RC a σ) : Sp ω l yX8_trace cX8_trace 1 (some .int) d [.ref (ω.2.2.1 0)] σ (PC (atr a) a σ) :=
  Sp.of (by decide) (Nat.le_of_ble_eq_true rfl) hWf (fun κ K => R_X8_trace_0 K (PC.at hR.2.1 hR EC.rf))
theorem d_trace (hWf : Wf ω) (hR : RM a σ) : Sp ω l yX9_trace cX9_trace 1 (some .int) d [.ref (ω.2.2.1 35)] σ (PM (atr a) a σ) :=
  Sp.of (by decide) (Nat.le_of_ble_eq_true rfl) hWf (fun κ K => R_X9_trace_0 K (PM.at hR.2.1 hR EM.rf))
theorem c_fault (hWf : Wf ω) (hR : RC a σ) : Sp ω l yX8_fault cX8_fault 1 (some .int) d [.ref (ω.2.2.1 0)] σ (PC (afl a) a σ) :=
  Sp.of (by decide) (Nat.le_of_ble_eq_true rfl) hWf (fun κ K => R_X8_fault_0 K (PC.at hR.2.2.1 hR EC.rf))
theorem d_fault (hWf : Wf ω) (hR : RM a σ) : Sp ω l yX9_fault cX9_fault 1 (some .int) d [.ref (ω.2.2.1 35)] σ (PM (afl a) a σ) :=
  Sp.of (by decide) (Nat.le_of_ble_eq_true rfl) hWf (fun κ K => R_X9_fault_0 K (PM.at hR.2.2.1 hR EM.rf))
def o_many (t : Tn) (x : Int32) : Int32 := if x = 0 then nI (tnp t) else if x = 1 then nI (tnm t) else if x = 2 then nI (tme t) else if x = 3 then nI (tla t) else if x = 4 then nI (tit t) else -2
theorem c_many {x : Int32} (hWf : Wf ω) (hR : RC a σ) : Sp ω l yX8_many cX8_many 2 (some .int) d [.ref (ω.2.2.1 0), .int x] σ (PC (o_many (att a) x) a σ) := by
  refine Sp.of (by decide) (Nat.le_of_ble_eq_true rfl) hWf (fun κ K => R_X8_many_0 K (fun h => ?_) (fun h0 h => ?_) (fun h0 h1 h => ?_) (fun h0 h1 h2 h => ?_) (fun h0 h1 h2 h3 h => ?_) (fun h0 h1 h2 h3 h => ?_)) <;> unfold o_many
  · rw [if_pos h]; exact PC.at hR.1.1 hR EC.rf
  · rw [if_neg h0, if_pos h]; exact PC.at hR.1.2.1 hR EC.rf
  · rw [if_neg h0, if_neg h1, if_pos h]; exact PC.at hR.1.2.2.1 hR EC.rf
  · rw [if_neg h0, if_neg h1, if_neg h2, if_pos h]; exact PC.at hR.1.2.2.2.1 hR EC.rf
  · rw [if_neg h0, if_neg h1, if_neg h2, if_neg h3, if_pos h]; exact PC.at hR.1.2.2.2.2.1 hR EC.rf
  · rw [if_neg h0, if_neg h1, if_neg h2, if_neg h3, if_neg h]; exact PC.at rfl hR EC.rf
theorem d_many {x : Int32} (hWf : Wf ω) (hR : RM a σ) : Sp ω l yX9_many cX9_many 2 (some .int) d [.ref (ω.2.2.1 35), .int x] σ (PM (o_many (att a) x) a σ) := by
  refine Sp.of (by decide) (Nat.le_of_ble_eq_true rfl) hWf (fun κ K => R_X9_many_0 K (fun h => ?_) (fun h0 h => ?_) (fun h0 h1 h => ?_) (fun h0 h1 h2 h => ?_) (fun h0 h1 h2 h3 h => ?_) (fun h0 h1 h2 h3 h => ?_)) <;> unfold o_many
  · rw [if_pos h]; exact PM.at hR.1.1 hR EM.rf
  · rw [if_neg h0, if_pos h]; exact PM.at hR.1.2.1 hR EM.rf
  · rw [if_neg h0, if_neg h1, if_pos h]; exact PM.at hR.1.2.2.1 hR EM.rf
  · rw [if_neg h0, if_neg h1, if_neg h2, if_pos h]; exact PM.at hR.1.2.2.2.1 hR EM.rf
  · rw [if_neg h0, if_neg h1, if_neg h2, if_neg h3, if_pos h]; exact PM.at hR.1.2.2.2.2.1 hR EM.rf
  · rw [if_neg h0, if_neg h1, if_neg h2, if_neg h3, if_neg h]; exact PM.at rfl hR EM.rf
end SMALL
