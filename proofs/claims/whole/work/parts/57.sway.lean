/-! ===== sway: parts of a set, votes with some who are free ===== -/
section SWAY
variable {ω : WT} {l : Launch} {d : Nat} {a : Ab} {σ : St}
theorem pollS_set {kd : Nat → Nat} {w w' fr fr' : Nat → Bool} {set : Nat} : ∀ {n : Nat}, (∀ x, x < n → set.testBit x = true → w x = w' x ∧ fr x = fr' x) → pollS kd w fr set n = pollS kd w' fr' set n
  | 0, _ => rfl
  | n + 1, h => by
    have ih := pollS_set (kd := kd) (set := set) (fun x hx hs => h x (Nat.lt_succ_of_lt hx) hs)
    rw [pollS, pollS, ih]
    by_cases hs : set.testBit n = true
    · have hn := h n (by omega) hs
      have e : ∀ a b, sayS kd w fr n a b = sayS kd w' fr' n a b := fun a b => by
        unfold sayS
        rw [hn.1, hn.2]
      rw [e]
    · rw [if_neg hs, if_neg hs]
theorem stepS_set {np me la : Nat} {kd : Nat → Nat} {w w' fr fr' : Nat → Bool} {m : Nat × Nat} (h : ∀ x, x < np → m.1.testBit x = true → w x = w' x ∧ fr x = fr' x) : stepS np me la kd w fr m = stepS np me la kd w' fr' m := by
  unfold stepS
  rw [pollS_set h]
/-- the parts of a set as the class takes them -/
def ptL (C : Nat) : Nat → Nat → List Nat
  | 0, _ => []
  | k + 1, g => g :: (if g = 0 then [] else ptL C k ((g - 1) &&& C))
theorem ptL_ok : ∀ C, C < 256 → (3 < cb C 8 || (List.range 256).all (fun g => (g &&& C == g) == (ptL C 8 C).contains g)) = true := by decide +kernel
/-- the model's spread -/
def spN (k of : Nat) : Nat → Nat × Nat
  | 0 => (0, k)
  | x + 1 => if of.testBit x then ((spN k of x).1 + (spN k of x).2 % 2 * 2 ^ x, (spN k of x).2 / 2) else spN k of x
theorem spN_ok : ∀ C, C < 256 → (3 < cb C 8 || (List.range 256).all (fun g => (g &&& C == g) == ((List.range (2 ^ cb C 8)).map (fun k => (spN k C 8).1)).contains g)) = true := by decide +kernel
end SWAY
