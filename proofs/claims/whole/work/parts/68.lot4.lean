/-! ===== lot: the model's numbers ===== -/
section LOT4
variable {ω : WT} {l : Launch} {d : Nat} {a : Ab} {σ : St}
theorem ch_mul : ∀ m, m < 8 → ∀ i, i < 9 → chK m i * (m + 1) / (i + 1) = chK (m + 1) (i + 1) := by decide +kernel
theorem ch_le : ∀ m, m < 9 → ∀ i, i < 9 → chK m i ≤ 70 := by decide +kernel
theorem m_choose {n k : Nat} (hWf : Wf ω) (hn : n ≤ 8) (hk : k ≤ n) : Sp ω l yX9_choose cX9_choose 5 (some .long) d [.int (nI n), .int (nI k)] σ (rJ (nJ (chK n k)) σ) := by
  refine Sp.of (by decide) (Nat.le_of_ble_eq_true rfl) hWf (fun κ K => R_X9_choose_0 K ?_)
  have loop : ∀ j i, i + j = k → V ω κ 5 [(0, .int (nI n)), (1, .int (nI k)), (2, .long (nJ (chK (n - k + i) i))), (4, .int (nI (i + 1)))] [] σ := by
    intro j
    induction j with
    | zero =>
      intro i h
      obtain rfl : i = k := by omega
      have hlt : nI i < nI (i + 1) := (nI_ltI (by omega) (by omega)).mpr (by omega)
      refine R_X9_choose_5 K (fun _ => ⟨?_, rfl⟩) (fun z_ => absurd hlt z_) (fun z_ => absurd hlt z_)
      rw [show n - i + i = n by omega]
    | succ j ih =>
      intro i h
      have hge : ¬ nI k < nI (i + 1) := fun z => absurd ((nI_ltI (by omega) (by omega)).mp z) (by omega)
      have h70 := ch_le (n - k + i) (by omega) i (by omega)
      refine R_X9_choose_5 K (fun z_ => absurd z_ hge) (fun _ z => ?_) (fun _ => ?_)
      · rw [nJ_of (by omega)] at z
        exact absurd ((nJ_eq (b := 0) (by omega) (by omega)).mp z) (by omega)
      · have e1 : chK (n - k + i) i * (n - k + i + 1) < 2 ^ 63 := Nat.lt_of_le_of_lt (Nat.mul_le_mul h70 (show n - k + i + 1 ≤ 9 by omega)) (by decide)
        rw [pk_sub (by omega), nI_add, nJ_of (by omega), nJ_of (by omega), nJ_mul, show n - k + (i + 1) = n - k + i + 1 by omega, nJ_div e1 (by omega) (by omega), ch_mul (n - k + i) (by omega) i (by omega), nI_1]
        have := ih (i + 1) (by omega)
        rw [show n - k + (i + 1) = n - k + i + 1 by omega] at this
        exact this
  have := loop k 0 (by omega)
  have e : chK (n - k + 0) 0 = 1 := by cases (n - k + 0) <;> rfl
  rw [e] at this
  exact this
theorem m_leastCommon {a b : Nat} (hWf : Wf ω) (ha : 0 < a) (ha2 : a < 2 ^ 31) (hb : b < 2 ^ 31) : Sp ω l yX9_leastCommon cX9_leastCommon 10 (some .long) d [.long (nJ a), .long (nJ b)] σ (rJ (nJ (a / Nat.gcd a b * b)) σ) := by
  refine Sp.of (by decide) (Nat.le_of_ble_eq_true rfl) hWf (fun κ K => R_X9_leastCommon_0 K ?_)
  have hg0 : 0 < Nat.gcd a b := Nat.gcd_pos_of_pos_left _ ha
  have hgl : Nat.gcd a b ≤ a := Nat.gcd_le_left _ ha
  have loop : ∀ n x y, y < n → y < 2 ^ 31 → x < 2 ^ 31 → Nat.gcd x y = Nat.gcd a b → V ω κ 6 [(0, .long (nJ a)), (2, .long (nJ b)), (4, .long (nJ x)), (6, .long (nJ y))] [] σ := by
    intro n
    induction n with
    | zero => intro x y h; exact absurd h (Nat.not_lt_zero _)
    | succ n ih =>
      intro x y hn hy hx hg
      refine R_X9_leastCommon_6 K (fun z q => ?_) (fun z => ⟨?_, rfl⟩) (fun z q => z (by rw [q]; decide)) (fun z => ?_)
      · have y0 := (nJ_c0 (by omega)).mp z
        have x0 := (nJ_eq (b := 0) (by omega) (by omega)).mp q
        rw [y0, x0] at hg
        simp at hg
        omega
      · have y0 := (nJ_c0 (by omega)).mp z
        rw [y0, Nat.gcd_zero_right] at hg
        rw [hg, nJ_div (by omega) hg0 (by omega), nJ_mul]
      · have y0 : y ≠ 0 := fun q => z ((nJ_c0 (by omega)).mpr q)
        have hr := Nat.mod_lt x (show 0 < y by omega)
        rw [nJ_rem (by omega) (by omega) (by omega)]
        exact ih y (x % y) (by omega) (by omega) (by omega) (by rw [← gcd_st]; exact hg)
  exact loop (b + 1) a b (by omega) hb ha2 rfl
def acL (np : Nat) : Nat → Nat
  | 0 => 1
  | k + 1 => acL np k / Nat.gcd (acL np k) (chK np (k + 1)) * chK np (k + 1)
theorem ac_al : ∀ n, n < 9 → 2 ≤ n → acL n n = alN n ∧ alN n ≤ 840 ∧ 0 < alN n := by decide +kernel
theorem ac_b : ∀ n, n < 9 → ∀ k, k < 9 → k ≤ n → 0 < acL n k ∧ acL n k ≤ 840 := by decide +kernel
theorem m_allWays {np : Nat} (hWf : Wf ω) (hd : 1 ≤ d) (hnp : np ≤ 8) (h2 : 2 ≤ np) (hp : σ.1 2245 = nI np) : Sp ω l yX9_allWays cX9_allWays 6 (some .long) d [.ref (ω.2.2.1 35)] σ (rJ (nJ (alN np)) σ) := by
  refine Sp.of (by decide) (Nat.le_of_ble_eq_true rfl) hWf (fun κ K => R_X9_allWays_0 K ?_)
  have loop : ∀ j k, k + j = np → V ω κ 4 [(0, .ref (ω.2.2.1 35)), (1, .long (nJ (acL np k))), (3, .int (nI (k + 1)))] [] σ := by
    intro j
    induction j with
    | zero =>
      intro k h
      obtain rfl : k = np := by omega
      have hlt : σ.1 2245 < nI (k + 1) := by rw [hp]; exact (nI_ltI (by omega) (by omega)).mpr (by omega)
      refine R_X9_allWays_4 K (fun _ => ⟨?_, rfl⟩) (fun z_ => absurd hlt z_)
      rw [(ac_al k (by omega) h2).1]
    | succ j ih =>
      intro k h
      have hge : ¬ σ.1 2245 < nI (k + 1) := by
        rw [hp]
        exact fun z => absurd ((nI_ltI (by omega) (by omega)).mp z) (by omega)
      refine R_X9_allWays_4 K (fun z_ => absurd z_ hge) (fun _ => ?_)
      rw [hp]
      refine C_X9_allWays_17 K hd (m_choose hWf hnp (by omega)) (go_J ?_)
      have h70 := ch_le np (by omega) (k + 1) (by omega)
      have hb := ac_b np (by omega) k (by omega) (by omega)
      refine R_X9_allWays_20 K ?_
      refine C_X9_allWays_25 K hd (m_leastCommon hWf hb.1 (by omega) (by omega)) (go_J ?_)
      refine R_X9_allWays_28 K ?_
      rw [nI_1]
      exact ih (k + 1) (by omega)
  exact loop np 0 (by omega)
theorem m_clearNext (hWf : Wf ω) : Sp ω l yX9_clearNext cX9_clearNext 2 none d [.ref (ω.2.2.1 35)] σ (fun v σ' => v = none ∧ (∀ k, k < 257 → σ'.2.2.2 58 k = 0) ∧ Eqx [] [58] σ σ') := by
  refine Sp.of (by decide) (Nat.le_of_ble_eq_true rfl) hWf (fun κ K => R_X9_clearNext_0 K ?_)
  have loop : ∀ j i σq, i + j = 257 → Eqx [] [58] σ σq → (∀ k, k < i → σq.2.2.2 58 k = 0) → V ω κ 2 [(0, .ref (ω.2.2.1 35)), (1, .int (nI i))] [] σq := by
    intro j
    induction j with
    | zero =>
      intro i σq h hE h0
      obtain rfl : i = 257 := by omega
      have hle : (257 : Int32) ≤ nI 257 := by decide
      exact R_X9_clearNext_2 K (fun _ => ⟨rfl, h0, hE⟩) (fun z_ => absurd hle z_) (fun z_ => absurd hle z_)
    | succ j ih =>
      intro i σq h hE h0
      have hge : ¬ (257 : Int32) ≤ nI i := fun z => absurd ((nI_leI (a := 257) (by decide) (by omega)).mp z) (by omega)
      refine R_X9_clearNext_2 K (fun z_ => absurd z_ hge) (fun _ => vp_in_nI (by omega) (by omega)) (fun _ => ?_)
      rw [nI_clamp (by omega), nI_1]
      refine ih (i + 1) _ (by omega) (hE.pM (by simp) _ _) (fun k hk => ?_)
      show vp_updL (σq.2.2.2 58) i 0 k = 0
      by_cases z : k = i
      · subst z; exact uL_s
      · rw [uL_n z]; exact h0 k (by omega)
  exact loop 257 0 σ (by omega) Eqx.rf (fun k hk => absurd hk (by omega))
theorem m_share {up dn : Nat} {w : Int32} (hWf : Wf ω) (hu : up < 2 ^ 63) (hdn : dn < 2 ^ 63) (h0 : 0 < dn) : Sp ω l yX9_share cX9_share 11 (some .long) d [.long (nJ up), .long (nJ dn), .int w] σ (rJ (if w = 0 then nJ (up / Nat.gcd up dn) else nJ (dn / Nat.gcd up dn)) σ) := by
  refine Sp.of (by decide) (Nat.le_of_ble_eq_true rfl) hWf (fun κ K => R_X9_share_0 K ?_)
  have hg0 : 0 < Nat.gcd up dn := Nat.gcd_pos_of_pos_right _ h0
  have hgl : Nat.gcd up dn ≤ dn := Nat.gcd_le_right _ h0
  have loop : ∀ n x y, y < n → y < 2 ^ 63 → x < 2 ^ 63 → Nat.gcd x y = Nat.gcd up dn → V ω κ 6 [(0, .long (nJ up)), (2, .long (nJ dn)), (4, .int w), (5, .long (nJ x)), (7, .long (nJ y))] [] σ := by
    intro n
    induction n with
    | zero => intro x y h; exact absurd h (Nat.not_lt_zero _)
    | succ n ih =>
      intro x y hn hy hx hg
      have nx : lg_cmp (nJ y) 0 = 0 → ¬ nJ x = 0 := fun z q => by
        have y0 := (nJ_c0 (by omega)).mp z
        have x0 := (nJ_eq (b := 0) (by omega) (by omega)).mp q
        rw [y0, x0] at hg
        simp at hg
        omega
      refine R_X9_share_6 K (fun z _ => nx z) (fun z _ => nx z) (fun z => ⟨?_, rfl⟩) (fun z q => z (by rw [q]; decide)) (fun z => ?_)
      · have y0 := (nJ_c0 (by omega)).mp z
        rw [y0, Nat.gcd_zero_right] at hg
        rw [hg, nJ_div hu hg0 (by omega), nJ_div hdn hg0 (by omega)]
      · have y0 : y ≠ 0 := fun q => z ((nJ_c0 (by omega)).mpr q)
        have hr := Nat.mod_lt x (show 0 < y by omega)
        rw [nJ_rem (by omega) (by omega) (by omega)]
        exact ih y (x % y) (by omega) (by omega) (by omega) (by rw [← gcd_st]; exact hg)
  exact loop (dn + 1) up dn (by omega) hdn hu rfl
theorem m_drawSeats {np w al s : Nat} (hWf : Wf ω) (hd : 1 ≤ d) (hnp : np ≤ 8) (hp : σ.1 2245 = nI np) (h66 : σ.1 2266 = nI s) (hs : s ≤ np) (hal : al ≤ 840) : Sp ω l yX9_drawSeats cX9_drawSeats 8 none d [.ref (ω.2.2.1 35), .long (nJ w), .long (nJ al)] σ (fun v σ' => v = none ∧ (∀ S, S < 2 ^ np → σ'.2.2.2 58 S = σ.2.2.2 58 S + nJ (if cb S 8 = s then w * (al / chK np s) else 0)) ∧ σ'.2.2.2 58 256 = σ.2.2.2 58 256 ∧ Eqx [] [58] σ σ') := by
  refine Sp.of (by decide) (Nat.le_of_ble_eq_true rfl) hWf (fun κ K => R_X9_drawSeats_0 K ?_)
  have hp8 := p2_le8 hnp
  have hpos := Nat.two_pow_pos np
  rw [hp, h66]
  refine C_X9_drawSeats_10 K hd (m_choose hWf hnp hs) (go_J ?_)
  obtain ⟨-, c2, c3⟩ := ch_840 np (by omega) s (by omega) hs
  refine R_X9_drawSeats_13 K (fun z => c2 ((nJ_eq (b := 0) (by omega) (by omega)).mp z)) ?_
  rw [nJ_div (by omega) (by omega) (by omega), nJ_mul]
  have loop : ∀ j i σq, i + j = 2 ^ np → Eqx [] [58] σ σq → (∀ S, S < i → σq.2.2.2 58 S = σ.2.2.2 58 S + nJ (if cb S 8 = s then w * (al / chK np s) else 0)) → (∀ S, i ≤ S → σq.2.2.2 58 S = σ.2.2.2 58 S) → V ω κ 20 [(0, .ref (ω.2.2.1 35)), (5, .long (nJ (w * (al / chK np s)))), (7, .int (nI i))] [] σq := by
    intro j
    induction j with
    | zero =>
      intro i σq h hE h1 h2
      obtain rfl : i = 2 ^ np := by omega
      have hlt : ((1 : Int32) <<< (σq.1 2245 &&& 31)) - 1 < nI (2 ^ np) := by
        rw [hE.1 2245 (by decide), hp, nI_all hnp]
        exact (nI_ltI (by omega) (by omega)).mpr (by omega)
      exact R_X9_drawSeats_20 K hd (fun _ => ⟨rfl, h1, h2 256 (by omega), hE⟩) (fun z_ => absurd hlt z_) (fun z_ => absurd hlt z_) (fun z_ => absurd hlt z_)
    | succ j ih =>
      intro i σq h hE h1 h2
      have hge : ¬ ((1 : Int32) <<< (σq.1 2245 &&& 31)) - 1 < nI i := by
        rw [hE.1 2245 (by decide), hp, nI_all hnp]
        exact fun z => absurd ((nI_ltI (by omega) (by omega)).mp z) (by omega)
      refine R_X9_drawSeats_20 K hd (fun z_ => absurd z_ hge) (fun _ => vp_in_nI (by omega) (by omega)) (fun _ => vp_in_nI (by omega) (by omega)) (fun _ => ?_)
      have hcb := cb_le i 8
      rw [nI_clamp (by omega), nI_1, hE.1 2266 (by decide), h66, F_bits_n (by omega) 20 (by omega), cb_top (n := 8) (by omega) 12, h2 i (Nat.le_refl _)]
      have ei : (if nI (cb i 8) = nI s then nJ (w * (al / chK np s)) else 0) = nJ (if cb i 8 = s then w * (al / chK np s) else 0) := by
        by_cases z : cb i 8 = s
        · rw [if_pos (by rw [z]), if_pos z]
        · have hz : ¬ nI (cb i 8) = nI s := fun y => z ((nI_eq (by omega) (by omega)).mp y)
          rw [if_neg hz, if_neg z]
          rfl
      rw [ei]
      refine ih (i + 1) _ (by omega) (hE.pM (by simp) _ _) (fun S hS => ?_) (fun S hS => ?_)
      · show vp_updL (σq.2.2.2 58) i _ S = _
        by_cases z : S = i
        · subst z; exact uL_s
        · rw [uL_n z]; exact h1 S (by omega)
      · show vp_updL (σq.2.2.2 58) i _ S = _
        rw [uL_n (by omega)]; exact h2 S (by omega)
  exact loop (2 ^ np) 0 σ (by omega) Eqx.rf (fun S hS => absurd hS (by omega)) (fun _ _ => rfl)
end LOT4
