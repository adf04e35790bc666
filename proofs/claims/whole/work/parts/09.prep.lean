/-! ===== small rows that the printed regions use ===== -/
theorem Cx.wf {ω : WT} {κ : KT} {l : Launch} {y : MethodName} {cc : ByteArray} {nL d : Nat} (K : Cx ω κ l y cc nL d) : Wf ω := by
  obtain ⟨p, l', e, R, s, m, args, below, meth, c, cells, slots, Q⟩ := κ
  exact K.2.2.2.2.2.2.1
theorem V_join {ω : WT} {κ : KT} {pc J : Nat} {L : List (Nat × Value)} {S S0 : List Value} {σ : St} {v : Value} (h : V ω κ J L (v :: S) σ → V ω κ pc L S0 σ) (k : V ω κ J L (v :: S) σ) : V ω κ pc L S0 σ := h k
theorem V_top {ω : WT} {κ : KT} {pc : Nat} {L : List (Nat × Value)} {S : List Value} {σ : St} {v v' : Int32} (h : v = v') (k : V ω κ pc L (.int v :: S) σ) : V ω κ pc L (.int v' :: S) σ := h ▸ k
theorem V_topJ {ω : WT} {κ : KT} {pc : Nat} {L : List (Nat × Value)} {S : List Value} {σ : St} {v v' : Int64} (h : v = v') (k : V ω κ pc L (.long v :: S) σ) : V ω κ pc L (.long v' :: S) σ := h ▸ k
theorem narZ {v : Int32} (h : v = 0 ∨ v = 1) : narrow .boolean (.int v) = .int v := by rcases h with rfl | rfl <;> rfl
theorem narZ2 {v : Int32} (h : v = 0 ∨ v = 1) : vp_nar .boolean v = v := by rcases h with rfl | rfl <;> rfl
theorem fitZ {v : Int32} (h : v = 0 ∨ v = 1) : fits .boolean (.int v) = true := by rcases h with rfl | rfl <;> rfl
theorem shO (j : Nat) (h : j < 4) : shpO (2 + j) = some (6, [(6 + j) + 2, 0, 0]) := by
  match j, h with
  | 0, _ => rfl
  | 1, _ => rfl
  | 2, _ => rfl
  | 3, _ => rfl
theorem shA (j : Nat) (h : j < 4) : shpA (6 + j) = some (0, 80) := by
  match j, h with
  | 0, _ => rfl
  | 1, _ => rfl
  | 2, _ => rfl
  | 3, _ => rfl
