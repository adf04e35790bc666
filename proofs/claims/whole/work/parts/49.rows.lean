/-! ===== orders: the model's rows ===== -/
section ROWS
variable {ω : WT} {l : Launch} {d : Nat} {a : Ab} {σ : St}
def swL (p : List Nat) (i j : Nat) : List Nat := (p.set i (p.getD j 0)).set j (p.getD i 0)
def dnL (p : List Nat) : Nat → Nat
  | 0 => 0
  | i + 1 => if p.getD i 0 ≤ p.getD (i + 1) 0 then i + 1 else dnL p i
def upL (p : List Nat) (v : Nat) : Nat → Nat
  | 0 => 0
  | j + 1 => if v ≤ p.getD (j + 1) 0 then j + 1 else upL p v j
def rvL : Nat → List Nat → Nat → Nat → List Nat
  | 0, p, _, _ => p
  | k + 1, p, i, j => if j ≤ i then p else rvL k (swL p i j) (i + 1) (j - 1)
def nxL (n : Nat) (p : List Nat) : Option (List Nat) := match dnL p (n - 1) with
  | 0 => none
  | i + 1 => some (rvL n (swL p i (upL p (p.getD i 0) (n - 1))) (i + 1) (n - 1))
def chL (n : Nat) : List (List Nat) → Bool
  | [] => true
  | p :: r => (nxL n p == r.head?) && chL n r
theorem chL_ok : ∀ S, S < 64 → chL (cb S 6) (prm (cb S 6) S) = true := by decide +kernel
def insR (p : List Nat) : Nat → List Nat
  | 0 => p
  | i + 1 => if p.getD i 0 ≤ p.getD (i + 1) 0 then p else insR (swL p (i + 1) i) i
def soL (p : List Nat) : Nat → List Nat
  | 0 => p
  | x + 1 => insR (soL p x) x
theorem soL_ok : ∀ S, S < 64 → (prm (cb S 6) S).all (fun p => soL p (cb S 6) == ascS S 6) = true := by decide +kernel
theorem gd_set {p : List Nat} {i v q : Nat} (hi : i < p.length) : (p.set i v).getD q 0 = if q = i then v else p.getD q 0 := by
  rw [List.getD_eq_getElem?_getD, List.getD_eq_getElem?_getD, List.getElem?_set]
  by_cases z : q = i
  · subst z
    rw [if_pos rfl, if_pos rfl, if_pos hi]
    rfl
  · rw [if_neg (fun y => z y.symm), if_neg z]
/-- a row of n matters stands in the model's order -/
def RW (p : List Nat) (n : Nat) (σ : St) : Prop := p.length = n ∧ (∀ q, q < n → σ.2.1 54 q = nI (p.getD q 0)) ∧ ∀ q, p.getD q 0 < 6
theorem RW.sw {p : List Nat} {n i j : Nat} (h : RW p n σ) (hi : i < n) (hj : j < n) : RW (swL p i j) n (pA (pA σ 54 i (σ.2.1 54 j)) 54 j (σ.2.1 54 i)) := by
  obtain ⟨h1, h2, h3⟩ := h
  have hl : (p.set i (p.getD j 0)).length = p.length := List.length_set
  have e : ∀ q, (swL p i j).getD q 0 = if q = j then p.getD i 0 else if q = i then p.getD j 0 else p.getD q 0 := fun q => by
    unfold swL
    rw [gd_set (by omega), gd_set (by omega)]
  refine ⟨by unfold swL; rw [List.length_set, List.length_set]; exact h1, fun q hq => ?_, fun q => ?_⟩
  · rw [e]
    show upd (upd (σ.2.1 54) i (σ.2.1 54 j)) j (σ.2.1 54 i) q = _
    by_cases z : q = j
    · rw [z, pk_us, if_pos rfl]; exact h2 i hi
    · rw [pk_un z, if_neg z]
      by_cases z2 : q = i
      · rw [z2, pk_us, if_pos rfl]; exact h2 j hj
      · rw [pk_un z2, if_neg z2]; exact h2 q hq
  · rw [e]
    split
    · exact h3 i
    · split
      · exact h3 j
      · exact h3 q
theorem RW.keep {p : List Nat} {n : Nat} {σ' : St} {ks as : List Nat} (h : RW p n σ) (e : Eqx ks as σ σ') (ha : 54 ∉ as) : RW p n σ' := ⟨h.1, fun q hq => by rw [e.2.1 54 ha]; exact h.2.1 q hq, h.2.2⟩
theorem RW.le {p : List Nat} {n i j : Nat} (h : RW p n σ) (hi : i < n) (hj : j < n) : σ.2.1 54 i ≤ σ.2.1 54 j ↔ p.getD i 0 ≤ p.getD j 0 := by
  have a1 := h.2.2 i
  have a2 := h.2.2 j
  rw [h.2.1 i hi, h.2.1 j hj, nI_leI (by omega) (by omega)]
theorem m1 {x : Nat} (hx : 1 ≤ x) : nI x + -1 = nI (x - 1) := by
  have : nI x + -1 = nI x - 1 := by rw [Int32.sub_eq_add_neg]
  rw [this, show (1 : Int32) = nI 1 from rfl, pk_sub hx]
theorem rev_loop {κ : KT} {n : Nat} (hn : n ≤ 6) (hd : 1 ≤ d) {post : Option Value → St → Prop} (K : Cm ω κ l yX9_nextRow cX9_nextRow 5 d (some .boolean) post) :
    ∀ k p i j σq, RW p n σq → j < n → j < i + k → i ≤ n → (∀ σ', RW (rvL k p i j) n σ' → Eqx [] [54] σq σ' → post (some (.int 1)) σ') → V ω κ 86 [(0, .ref (ω.2.2.1 35)), (3, .int (nI i)), (4, .int (nI j))] [] σq
  | 0, p, i, j, σq, h, hj, hk, hi, fin => by
    have hle : nI j ≤ nI i := nI_le (by omega) (by omega)
    exact R_X9_nextRow_86 K hd (fun _ => fin σq h Eqx.rf) (fun z_ => absurd hle z_) (fun z_ => absurd hle z_) (fun z_ => absurd hle z_) (fun z_ => absurd hle z_) (fun z_ => absurd hle z_)
  | k + 1, p, i, j, σq, h, hj, hk, hi, fin => by
    by_cases z : j ≤ i
    · have hle : nI j ≤ nI i := nI_le z (by omega)
      rw [rvL, if_pos z] at fin
      exact R_X9_nextRow_86 K hd (fun _ => fin σq h Eqx.rf) (fun z_ => absurd hle z_) (fun z_ => absurd hle z_) (fun z_ => absurd hle z_) (fun z_ => absurd hle z_) (fun z_ => absurd hle z_)
    · have hge : ¬ nI j ≤ nI i := fun y => z ((nI_leI (by omega) (by omega)).mp y)
      rw [rvL, if_neg z] at fin
      have i1 : vp_in (nI i) 6 := vp_in_nI (by omega) (by omega)
      have i2 : vp_in (nI j) 6 := vp_in_nI (by omega) (by omega)
      refine R_X9_nextRow_86 K hd (fun z_ => absurd z_ hge) (fun _ => i1) (fun _ => i2) (fun _ => i1) (fun _ => i2) (fun _ => ?_)
      rw [nI_clamp (by omega), nI_clamp (by omega), nI_1, m1 (by omega)]
      have hE1 : Eqx [] [54] σq (pA (pA σq 54 i (σq.2.1 54 j)) 54 j (σq.2.1 54 i)) := (Eqx.rf.pA (by simp) _ _).pA (by simp) _ _
      exact rev_loop hn hd K k (swL p i j) (i + 1) (j - 1) _ (h.sw (by omega) hj) (by omega) (by omega) (by omega) (fun σ' h1 h2 => fin σ' h1 (hE1.tr h2))
theorem up_loop {κ : KT} {n i : Nat} {p : List Nat} (hn : n ≤ 6) (hi : i + 1 < n) (hd : 1 ≤ d) (h51 : σ.1 2251 = nI n) (h : RW p n σ) {post : Option Value → St → Prop} (K : Cm ω κ l yX9_nextRow cX9_nextRow 5 d (some .boolean) post)
    (fin : ∀ σ', RW (rvL n (swL p i (upL p (p.getD i 0) (n - 1))) (i + 1) (n - 1)) n σ' → Eqx [] [54] σ σ' → post (some (.int 1)) σ') :
    ∀ j, i ≤ j → j < n → upL p (p.getD i 0) j = upL p (p.getD i 0) (n - 1) → V ω κ 47 [(0, .ref (ω.2.2.1 35)), (1, .int (nI i)), (2, .int (nI j))] [] σ := by
  intro j
  induction j with
  | zero =>
    intro h1 h2 h3
    obtain rfl : i = 0 := by omega
    have hle : σ.2.1 54 (nI 0).toNatClampNeg ≤ σ.2.1 54 (nI 0).toNatClampNeg := Int32.le_refl _
    have i1 : vp_in (nI 0) 6 := vp_in_nI (by omega) (by omega)
    refine R_X9_nextRow_47 K hd i1 i1 (fun _ => i1) (fun _ => i1) (fun _ => i1) (fun _ => i1) (fun _ => ?_) (fun z_ => absurd hle z_)
    rw [← h3] at fin
    rw [nI_clamp (by omega), h51, nI_1, show (1 : Int32) = nI 1 from rfl, pk_sub (by omega)]
    have hE1 : Eqx [] [54] σ (pA (pA σ 54 0 (σ.2.1 54 0)) 54 0 (σ.2.1 54 0)) := (Eqx.rf.pA (by simp) _ _).pA (by simp) _ _
    exact rev_loop hn hd K n (swL p 0 0) 1 (n - 1) _ (h.sw (by omega) (by omega)) (by omega) (by omega) (by omega) (fun σ' q1 q2 => fin σ' q1 (hE1.tr q2))
  | succ j ih =>
    intro h1 h2 h3
    have i1 : vp_in (nI i) 6 := vp_in_nI (by omega) (by omega)
    have i2 : vp_in (nI (j + 1)) 6 := vp_in_nI (by omega) (by omega)
    have hle := h.le (i := i) (j := j + 1) (by omega) h2
    rw [upL] at h3
    refine R_X9_nextRow_47 K hd i2 i1 (fun _ => i1) (fun _ => i2) (fun _ => i1) (fun _ => i2) (fun z_ => ?_) (fun z_ => ?_)
    · rw [nI_clamp (by omega), nI_clamp (by omega)] at z_ ⊢
      rw [if_pos (hle.mp z_)] at h3
      rw [← h3] at fin
      rw [h51, nI_1, show (1 : Int32) = nI 1 from rfl, pk_sub (by omega)]
      have hE1 : Eqx [] [54] σ (pA (pA σ 54 i (σ.2.1 54 (j + 1))) 54 (j + 1) (σ.2.1 54 i)) := (Eqx.rf.pA (by simp) _ _).pA (by simp) _ _
      exact rev_loop hn hd K n (swL p i (j + 1)) (i + 1) (n - 1) _ (h.sw (by omega) (by omega)) (by omega) (by omega) (by omega) (fun σ' q1 q2 => fin σ' q1 (hE1.tr q2))
    · rw [nI_clamp (by omega), nI_clamp (by omega)] at z_
      have z : ¬ p.getD i 0 ≤ p.getD (j + 1) 0 := fun y => z_ (hle.mpr y)
      rw [if_neg z] at h3
      have hij : i ≤ j := by
        by_cases y : i = j + 1
        · rw [y] at z; omega
        · omega
      rw [m1 (by omega)]
      exact ih hij (by omega) h3
/-- the next row, if there is one -/
def NXp (n : Nat) (p : List Nat) (σ : St) : Option Value → St → Prop := fun v σ' => (nxL n p = none ∧ v = some (.int 0) ∧ Eqx [] [54] σ σ') ∨ (∃ p', nxL n p = some p' ∧ v = some (.int 1) ∧ RW p' n σ' ∧ Eqx [] [54] σ σ')
theorem dn_loop {κ : KT} {n : Nat} {p : List Nat} (hn : n ≤ 6) (hd : 1 ≤ d) (h51 : σ.1 2251 = nI n) (h : RW p n σ) (K : Cm ω κ l yX9_nextRow cX9_nextRow 5 d (some .boolean) (NXp n p σ)) :
    ∀ i, i < n → dnL p i = dnL p (n - 1) → V ω κ 7 [(0, .ref (ω.2.2.1 35)), (1, .int (nI i - 1))] [] σ := by
  intro i
  induction i with
  | zero =>
    intro h1 h2
    have hlt : nI 0 - 1 < (0 : Int32) := by decide
    have hng : ¬ (0 : Int32) ≤ nI 0 - 1 := by decide
    refine R_X9_nextRow_7 K (fun _ z_ => absurd z_ hng) (fun _ _ => Or.inl ⟨?_, rfl, Eqx.rf⟩) (fun z_ => absurd hlt z_) (fun z_ => absurd hlt z_) (fun z_ => absurd hlt z_) (fun z_ => absurd hlt z_) (fun z_ => absurd hlt z_)
    unfold nxL
    rw [← h2, dnL]
  | succ i ih =>
    intro h1 h2
    have e : nI (i + 1) - 1 = nI i := by rw [show (1 : Int32) = nI 1 from rfl, pk_sub (by omega)]; rfl
    have e2 : nI i + 1 = nI (i + 1) := nI_1 i
    have hn0 : ¬ nI i < 0 := nI_pos (by omega)
    have hpos : (0 : Int32) ≤ nI i := Int32.not_lt.mp hn0
    have hle := h.le (i := i) (j := i + 1) (by omega) h1
    have i1 : vp_in (nI i) 6 := vp_in_nI (by omega) (by omega)
    have i2 : vp_in (nI i + 1) 6 := by rw [e2]; exact vp_in_nI (by omega) (by omega)
    rw [e]
    rw [dnL] at h2
    have c1 : (nI i).toNatClampNeg = i := nI_clamp (by omega)
    have c2 : (nI i + 1).toNatClampNeg = i + 1 := by rw [e2]; exact nI_clamp (by omega)
    refine R_X9_nextRow_7 K (fun z_ => absurd z_ hn0) (fun z_ => absurd z_ hn0) (fun _ => i1) (fun _ => i2) (fun _ z_ _ => ?_) (fun _ _ z_ => absurd hpos z_) (fun _ z_ => ?_)
    · rw [c1, c2] at z_
      rw [if_pos (hle.mp z_)] at h2
      rw [h51, show (1 : Int32) = nI 1 from rfl, pk_sub (by omega)]
      have hx : nxL n p = some (rvL n (swL p i (upL p (p.getD i 0) (n - 1))) (i + 1) (n - 1)) := by
        unfold nxL
        rw [← h2]
      exact up_loop hn h1 hd h51 h K (fun σ' q1 q2 => Or.inr ⟨_, hx, rfl, q1, q2⟩) (n - 1) (by omega) (by omega) rfl
    · rw [c1, c2] at z_
      rw [if_neg (fun y => z_ (hle.mpr y))] at h2
      have e3 : nI i + -1 = nI i - 1 := by rw [Int32.sub_eq_add_neg]
      rw [e3]
      exact ih (by omega) h2
theorem m_nextRow {n : Nat} {p : List Nat} (hWf : Wf ω) (hn1 : 1 ≤ n) (hn : n ≤ 6) (hd : 1 ≤ d) (h51 : σ.1 2251 = nI n) (h : RW p n σ) : Sp ω l yX9_nextRow cX9_nextRow 5 (some .boolean) d [.ref (ω.2.2.1 35)] σ (NXp n p σ) := by
  refine Sp.of (by decide) (Nat.le_of_ble_eq_true rfl) hWf (fun κ K => R_X9_nextRow_0 K ?_)
  have e : nI n - 2 = nI (n - 1) - 1 := by
    have : ∀ k, k < 7 → 1 ≤ k → nI k - 2 = nI (k - 1) - 1 := by decide
    exact this n (by omega) hn1
  rw [h51, e]
  exact dn_loop hn hd h51 h K (n - 1) (by omega) rfl
end ROWS
