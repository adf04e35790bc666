/-! ===== sway: the model's spread ===== -/
section SWAY2
variable {ω : WT} {l : Launch} {d : Nat} {a : Ab} {σ : St}
theorem spN_b {k of : Nat} (hk : k < 8) : ∀ x, (spN k of x).1 < 2 ^ x ∧ (spN k of x).2 < 8
  | 0 => ⟨show 0 < 2 ^ 0 by decide, hk⟩
  | x + 1 => by
    obtain ⟨h1, h2⟩ := spN_b (of := of) hk x
    rw [spN, Nat.pow_succ]
    split
    · refine ⟨?_, by show _ / 2 < 8; omega⟩
      show (spN k of x).1 + (spN k of x).2 % 2 * 2 ^ x < 2 ^ x * 2
      rcases Nat.mod_two_eq_zero_or_one (spN k of x).2 with e | e
      · rw [e]; omega
      · rw [e]; omega
    · exact ⟨by omega, h2⟩
theorem half8 : ∀ n, n < 8 → nI n >>> ((1 : Int32) &&& 31) = nI (n / 2) ∧ nI n &&& 1 = nI (n % 2) := by decide +kernel
theorem m_spread {k of : Nat} (hWf : Wf ω) (hk : k < 8) (ho : of < 256) : Sp ω l yX9_spread cX9_spread 5 (some .int) d [.int (nI k), .int (nI of)] σ (rI (nI (spN k of 8).1) σ) := by
  refine Sp.of (by decide) (Nat.le_of_ble_eq_true rfl) hWf (fun κ K => R_X9_spread_0 K ?_)
  have loop : ∀ j x, x + j = 8 → V ω κ 7 [(1, .int (nI of)), (2, .int (nI (spN k of x).1)), (3, .int (nI (spN k of x).2)), (4, .int (nI x))] [] σ := by
    intro j
    induction j with
    | zero =>
      intro x h
      obtain rfl : x = 8 := by omega
      have hle : (8 : Int32) ≤ nI 8 := by decide
      exact R_X9_spread_7 K (fun _ => ⟨rfl, rfl⟩) (fun z_ => absurd hle z_) (fun z_ => absurd hle z_)
    | succ j ih =>
      intro x h
      have hge : ¬ (8 : Int32) ≤ nI x := fun z => absurd ((nI_leI (a := 8) (by decide) (by omega)).mp z) (by omega)
      have hb := nI_bit1 (n := of) (k := x) (by omega) (by omega)
      obtain ⟨b1, b2⟩ := spN_b (of := of) hk x
      obtain ⟨e1, e2⟩ := half8 _ b2
      have ih2 := ih (x + 1) (by omega)
      rw [spN] at ih2
      refine R_X9_spread_7 K (fun z_ => absurd z_ hge) (fun _ z_ => ?_) (fun _ z_ => ?_)
      · rw [if_neg (fun y => z_ (hb.mpr y))] at ih2
        rw [nI_1]
        exact ih2
      · rw [if_pos (hb.mp z_)] at ih2
        rw [nI_1, e1, e2]
        have e3 : nI (spN k of x).1 ||| (nI ((spN k of x).2 % 2) <<< (nI x &&& 31)) = nI ((spN k of x).1 + (spN k of x).2 % 2 * 2 ^ x) := by
          rcases Nat.mod_two_eq_zero_or_one (spN k of x).2 with e | e
          · have z0 : nI 0 <<< (nI x &&& 31) = nI 0 := by
              have : ∀ x, x < 8 → nI 0 <<< (nI x &&& 31) = nI 0 := by decide +kernel
              exact this x (by omega)
            rw [e, z0, fa_or, Nat.or_zero, Nat.zero_mul, Nat.add_zero]
          · rw [e, show nI 1 = (1 : Int32) from rfl, sh1 x (by omega), fa_or, or_pow b1, Nat.one_mul]
        rw [e3]
        exact ih2
  exact loop 8 0 (by omega)
end SWAY2
