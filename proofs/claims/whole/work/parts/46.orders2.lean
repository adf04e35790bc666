/-! ===== orders, the class's side ===== -/
section ORDERS2
variable {ω : WT} {l : Launch} {d : Nat} {a : Ab} {σ : St}
/-- is a matter won by yes in an order from a moment on? -/
def wonP (t : Tn) (me la mt : Nat) : List Nat → Nat × Nat → Bool
  | [], _ => false
  | m :: p, mo => if m = mt then decide ((stM t me la m mo).2.1 = 1) else wonP t me la mt p (stM t me la m mo).2.2.2
def fctS (k : Nat) : Nat := ([1, 1, 2, 6, 24, 120, 720] : List Nat).getD k 0
def ascS (S : Nat) : Nat → List Nat
  | 0 => []
  | n + 1 => ascS S n ++ (if S.testBit n then [n] else [])
theorem prm_len : ∀ S, S < 64 → (prm (cb S 6) S).length = fctS (cb S 6) ∧ (prm (cb S 6) S).head? = some (ascS S 6) ∧ (ascS S 6).length = cb S 6 := by decide +kernel
theorem gd_l {l1 l2 : List Nat} {q : Nat} (h : q < l1.length) : (l1 ++ l2).getD q 0 = l1.getD q 0 := by
  rw [List.getD_eq_getElem?_getD, List.getD_eq_getElem?_getD, List.getElem?_append_left h]
theorem gd_at {l1 l2 : List Nat} {x : Nat} : (l1 ++ x :: l2).getD l1.length 0 = x := by
  rw [List.getD_eq_getElem?_getD, List.getElem?_append_right (Nat.le_refl _), Nat.sub_self]
  rfl
theorem ascS_pre {S : Nat} : ∀ {n : Nat} (k : Nat), ∃ r, ascS S (n + k) = ascS S n ++ r
  | n, 0 => ⟨[], by rw [List.append_nil]; rfl⟩
  | n, k + 1 => by
    obtain ⟨r, hr⟩ := ascS_pre (S := S) (n := n) k
    exact ⟨r ++ (if S.testBit (n + k) then [n + k] else []), by rw [← Nat.add_assoc, ascS, hr, List.append_assoc]⟩
theorem keep_loop {κ : KT} {t : Tn} {S dp : Nat} {pre : List Nat} (hO : TO t) (hT : TC t σ) (hS : S < 2 ^ tnm t) (hpre : pre.length + cb S 6 = tit t) {post : Option Value → St → Prop} (K : Cm ω κ l yX4_keepFirst cX4_keepFirst 5 d none post)
    (fin : ∀ σ', Eqx [] [30] σ σ' → (∀ q, q < tit t → σ'.2.1 30 q = nI ((pre ++ ascS S 6).getD q 0)) → post none σ') :
    ∀ k m σq, m + k = tnm t → Eqx [] [30] σ σq → (∀ q, q < (pre ++ ascS S m).length → σq.2.1 30 q = nI ((pre ++ ascS S m).getD q 0)) → V ω κ 36 [(0, .ref (ω.2.2.1 28)), (2, .int (nI S)), (3, .int (nI (pre ++ ascS S m).length)), (4, .int (nI m))] [] σq := by
  have hnm := hO.2.1
  have hit := hO.2.2.2.2.1
  have hS64 : S < 64 := Nat.lt_of_lt_of_le hS (Nat.pow_le_pow_right (by omega) hnm : 2 ^ tnm t ≤ 2 ^ 6)
  have hlen6 : (pre ++ ascS S 6).length = tit t := by rw [List.length_append, (prm_len S hS64).2.2]; exact hpre
  have hpx : ∀ m, m ≤ 6 → ∃ r, pre ++ ascS S 6 = (pre ++ ascS S m) ++ r := fun m hm => by
    obtain ⟨r, hr⟩ := ascS_pre (S := S) (n := m) (6 - m)
    rw [show m + (6 - m) = 6 by omega] at hr
    exact ⟨r, by rw [hr, List.append_assoc]⟩
  have hle6 : ∀ m, m ≤ 6 → (pre ++ ascS S m).length ≤ tit t := fun m hm => by
    obtain ⟨r, hr⟩ := hpx m hm
    have e := congrArg List.length hr
    rw [hlen6, List.length_append] at e
    omega
  intro k
  induction k with
  | zero =>
    intro m σq h hE hq
    obtain rfl : m = tnm t := by omega
    have hle : σq.1 641 ≤ nI (tnm t) := by rw [hE.1 641 (by decide), hT.2.1]; exact nI_le (Nat.le_refl _) (by omega)
    refine R_X4_keepFirst_36 K (fun _ => fin σq hE ?_) (fun z_ => absurd hle z_) (fun z_ => absurd hle z_) (fun z_ => absurd hle z_) (fun z_ => absurd hle z_)
    have htop : ∀ k, ascS S (tnm t + k) = ascS S (tnm t) := by
      intro k
      induction k with
      | zero => rfl
      | succ k ihk => rw [← Nat.add_assoc, ascS, ihk, Nat.testBit_lt_two_pow (Nat.lt_of_lt_of_le hS (Nat.pow_le_pow_right (by omega) (by omega))), if_neg (by decide), List.append_nil]
    have := htop (6 - tnm t)
    rw [show tnm t + (6 - tnm t) = 6 by omega] at this
    rw [this] at hlen6 ⊢
    exact fun q hq2 => hq q (by omega)
  | succ k ih =>
    intro m σq h hE hq
    have hge : ¬ σq.1 641 ≤ nI m := by
      rw [hE.1 641 (by decide), hT.2.1]
      exact fun z => absurd ((nI_leI (by omega) (by omega)).mp z) (by omega)
    have hl := hle6 m (by omega)
    have bI := bitI hS64 (show m < 6 by omega)
    refine R_X4_keepFirst_36 K (fun z_ => absurd z_ hge) (fun _ z_ => fin σq hE (fun q hq2 => ?_)) (fun _ _ z_ => ?_) (fun _ z_ _ => ?_) (fun _ z6_ z_ => ?_)
    · have := (nI_leI (a := 6) (by decide) (by omega)).mp z_
      obtain ⟨r, hr⟩ := hpx m (by omega)
      rw [hr, gd_l (by omega)]
      exact hq q (by omega)
    · rw [bI] at z_
      have e : ascS S (m + 1) = ascS S m := by rw [ascS, z_, if_neg (by decide), List.append_nil]
      have := ih (m + 1) σq (by omega) hE (by rw [e]; exact hq)
      rw [e] at this
      rw [nI_1]
      exact this
    · have : ¬ 6 ≤ (pre ++ ascS S m).length := fun q => z_ ((nI_leI (a := 6) (by decide) (by omega)).mpr q)
      exact vp_in_nI (by omega) (by omega)
    · have hb : S.testBit m = true := by
        cases e : S.testBit m
        · exact absurd (bI.mpr e) z_
        · rfl
      have e : pre ++ ascS S (m + 1) = (pre ++ ascS S m) ++ [m] := by rw [ascS, hb, if_pos rfl, List.append_assoc]
      have el : (pre ++ ascS S (m + 1)).length = (pre ++ ascS S m).length + 1 := by rw [e, List.length_append]; rfl
      rw [nI_1, nI_1, nI_clamp (by omega), ← el]
      refine ih (m + 1) _ (by omega) (hE.pA (by simp) _ _) (fun q hq2 => ?_)
      show upd (σq.2.1 30) _ _ q = _
      rw [e]
      by_cases z : q = (pre ++ ascS S m).length
      · rw [z, pk_us, gd_at]
      · rw [pk_un z, gd_l (by omega)]
        exact hq q (by omega)
theorem m_keepFirst {t : Tn} {S dp m : Nat} {pre : List Nat} {F : Bool} (hWf : Wf ω) (hd : 2 ≤ d) (hO : TO t) (hT : TC t σ) (hS : S < 2 ^ tnm t) (hdp : pre.length = dp) (hpre : dp + 1 + cb S 6 = tit t) (hF : σ.1 1795 = if F then 1 else 0) (h29 : ∀ q, q < dp + 1 → σ.2.1 29 q = nI ((pre ++ [m]).getD q 0)) : Sp ω l yX4_keepFirst cX4_keepFirst 5 none d [.ref (ω.2.2.1 28), .int (nI dp), .int (nI S)] σ (fun v σ' => v = none ∧ σ'.1 1795 = 1 ∧ (F = true → σ' = σ) ∧ (F = false → ∀ q, q < tit t → σ'.2.1 30 q = nI ((pre ++ m :: ascS S 6).getD q 0)) ∧ Eqx [1795] [30] σ σ') := by
  refine Sp.of (by decide) (Nat.le_of_ble_eq_true rfl) hWf (fun κ K => ?_)
  have hit := hO.2.2.2.2.1
  cases F
  · have h0 : σ.1 1795 = 0 := hF
    have e1 : nI dp + 1 = nI (dp + 1) := nI_1 dp
    have c0 : (0 : Int32).toNatClampNeg = 0 := rfl
    have c1 : (nI dp + 1).toNatClampNeg = dp + 1 := by rw [e1]; exact nI_clamp (by omega)
    refine R_X4_keepFirst_0 K hd (fun _ => by decide) (fun _ => by decide) (fun _ => by rw [e1]; exact nI_pos (by omega)) (fun _ => by rw [c0, c1]; omega) (fun _ => by rw [c0, c1]; omega) (fun _ => ?_) (fun z_ => absurd h0 z_)
    rw [c0, c1, e1]
    have hE1 : Eqx [1795] [30] σ (pF (pS σ 1795 1) 30 (va_cpy ((pS σ 1795 1).2.1 29) ((pS σ 1795 1).2.1 30) 0 0 (dp + 1))) := (Eqx.rf.pS (by simp) _).pF (by simp) _
    have hl : (pre ++ [m]).length = dp + 1 := by rw [List.length_append, hdp]; rfl
    have ea : pre ++ [m] ++ ascS S 0 = pre ++ [m] := by rw [ascS, List.append_nil]
    have := keep_loop (σ := pF (pS σ 1795 1) 30 (va_cpy ((pS σ 1795 1).2.1 29) ((pS σ 1795 1).2.1 30) 0 0 (dp + 1))) (dp := dp) (pre := pre ++ [m]) hO (hT.keep hE1 (by decide) (by decide)) hS (by rw [hl]; exact hpre) K (fun σ' hE' hq => ⟨rfl, ?_, fun z => absurd z (by decide), fun _ q hq2 => ?_, hE1.tr (hE'.mono (by simp) (by simp))⟩) (tnm t) 0 _ (by omega) Eqx.rf (fun q hq => ?_)
    · rw [ea, hl] at this
      exact this
    · exact hE'.1 1795 (by decide)
    · rw [hq q hq2, List.append_assoc]
      rfl
    · rw [ea] at hq ⊢
      rw [hl] at hq
      show va_cpy (σ.2.1 29) (σ.2.1 30) 0 0 (dp + 1) q = _
      rw [pk_cpy_in (by omega) (by omega), show 0 + (q - 0) = q by omega]
      exact h29 q hq
  · have h0 : ¬ σ.1 1795 = 0 := by rw [hF]; decide
    exact R_X4_keepFirst_0 K hd (fun z_ => absurd z_ h0) (fun z_ => absurd z_ h0) (fun z_ => absurd z_ h0) (fun z_ => absurd z_ h0) (fun z_ => absurd z_ h0) (fun z_ => absurd z_ h0) (fun _ => ⟨rfl, hF, fun _ => rfl, fun z => absurd z (by decide), Eqx.rf⟩)
/-- what is found so far: the first order of a list in which the matter is won -/
def FD (W : List Nat → Bool) (n : Nat) (F : Bool) (pre : List Nat) (lst : List (List Nat)) (σ σq : St) : Prop :=
  (σq.1 1795 = if (F || (lst.find? W).isSome) then 1 else 0) ∧ (F = true → σq.2.1 30 = σ.2.1 30) ∧ (F = false → ∀ p, lst.find? W = some p → ∀ q, q < n → σq.2.1 30 q = nI ((pre ++ p).getD q 0)) ∧ (∀ q, q < pre.length → σq.2.1 29 q = nI (pre.getD q 0)) ∧ Eqx [899, 900, 901, 1795] [29, 30] σ σq
theorem one_won {t : Tn} {me la mt m k S : Nat} {mo : Nat × Nat} (h : ¬ m = mt) : (fun p => wonP t me la mt p mo) ∘ (fun p => m :: p) = fun p => wonP t me la mt p (stM t me la m mo).2.2.2 := funext fun p => by
  show (if m = mt then _ else _) = _
  rw [if_neg h]
theorem mt_won {t : Tn} {me la mt : Nat} {mo : Nat × Nat} : (fun p => wonP t me la mt p mo) ∘ (fun p => mt :: p) = fun _ => decide ((stM t me la mt mo).2.1 = 1) := funext fun p => by
  show (if mt = mt then _ else _) = _
  rw [if_pos rfl]
theorem find_t {α : Type} {xs : List α} : xs.find? (fun _ => true) = xs.head? := by
  cases xs <;> rfl
theorem find_f {α : Type} {xs : List α} : xs.find? (fun _ => false) = none := by
  induction xs with
  | nil => rfl
  | cons x xs ih => rw [List.find?_cons]; exact ih
theorem cnt_t {α : Type} {xs : List α} : xs.countP (fun _ => true) = xs.length := by
  induction xs with
  | nil => rfl
  | cons x xs ih => rw [List.countP_cons, ih]; rfl
theorem cnt_f {α : Type} {xs : List α} : xs.countP (fun _ => false) = 0 := by
  induction xs with
  | nil => rfl
  | cons x xs ih => rw [List.countP_cons, ih]; rfl
end ORDERS2
