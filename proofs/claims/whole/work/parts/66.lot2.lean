/-! ===== lot: the class ===== -/
section LOT2
variable {ω : WT} {l : Launch} {d : Nat} {a : Ab} {σ : St}
abbrev nJ (n : Nat) : Int64 := Int64.ofNat n
theorem nJ_add (a b : Nat) : nJ a + nJ b = nJ (a + b) := (Int64.ofNat_add a b).symm
theorem nJ_mul (a b : Nat) : nJ a * nJ b = nJ (a * b) := (Int64.ofNat_mul a b).symm
theorem nJ_sub {a b : Nat} (h : b ≤ a) : nJ a - nJ b = nJ (a - b) := by
  obtain ⟨c, rfl⟩ : ∃ c, a = c + b := ⟨a - b, by omega⟩
  rw [← nJ_add, Int64.add_sub_cancel, Nat.add_sub_cancel]
theorem nJ_eq {a b : Nat} (ha : a < 2 ^ 63) (hb : b < 2 ^ 63) : nJ a = nJ b ↔ a = b := by
  constructor
  · intro h
    have := congrArg Int64.toInt h
    rw [lg_ofNat_toInt ha, lg_ofNat_toInt hb] at this
    omega
  · rintro rfl; rfl
theorem nJ_of {n : Nat} (h : n < 2 ^ 31) : (nI n).toInt64 = nJ n := by
  apply Int64.toInt_inj.mp
  rw [Jvm.Kit.i64_of_i32, nI_toInt h, lg_ofNat_toInt (by omega)]
theorem nJ_div {a d : Nat} (ha : a < 2 ^ 63) (h0 : 0 < d) (hd : d < 2 ^ 63) : nJ a / nJ d = nJ (a / d) := by
  apply Int64.toInt_inj.mp
  rw [lg_ldiv_nonneg (by rw [lg_ofNat_toInt ha]; omega) (by rw [lg_ofNat_toInt hd]; omega), lg_ofNat_toInt ha, lg_ofNat_toInt hd, lg_ofNat_toInt (Nat.lt_of_le_of_lt (Nat.div_le_self a d) ha)]
  first | rfl | exact (Int.natCast_ediv _ _).symm
theorem nJ_rem {a d : Nat} (ha : a < 2 ^ 63) (h0 : 0 < d) (hd : d < 2 ^ 63) : nJ a - nJ a / nJ d * nJ d = nJ (a % d) := by
  rw [nJ_div ha h0 hd, nJ_mul, nJ_sub (Nat.div_mul_le_self a d)]
  exact congrArg nJ (by have := Nat.div_add_mod' a d; omega)
theorem nJ_c0 {a : Nat} (ha : a < 2 ^ 63) : lg_cmp (nJ a) 0 = 0 ↔ a = 0 := by
  rw [lg_cmp_eq]
  exact nJ_eq (b := 0) ha (by omega)
theorem uL_s {f : Nat → Int64} {i : Nat} {v : Int64} : vp_updL f i v i = v := by simp [vp_updL]
theorem uL_n {f : Nat → Int64} {i j : Nat} {v : Int64} (h : j ≠ i) : vp_updL f i v j = f j := by simp [vp_updL, h]
theorem gcd_st (x y : Nat) : Nat.gcd x y = Nat.gcd y (x % y) := by
  rw [Nat.gcd_comm x y, Nat.gcd_rec y x, Nat.gcd_comm]
theorem half_rem {x y : Nat} (hr : x % y ≠ 0) (hy : y ≠ 0) : 2 * (y % (x % y)) < y := by
  have h1 : x % y < y := Nat.mod_lt _ (by omega)
  generalize x % y = r at *
  have h2 := Nat.div_add_mod y r
  have h3 : y % r < r := Nat.mod_lt _ (by omega)
  have h4 : r ≤ r * (y / r) := Nat.le_mul_of_pos_right r (Nat.div_pos (by omega) (by omega))
  omega
theorem cd_loop {κ : KT} {a b : Nat} (K : Cm ω κ l yX3_commonDivisor cX3_commonDivisor 7 d (some .long) (rJ (nJ (Nat.gcd a b)) σ)) : ∀ e s x y, y < 2 ^ e → e ≤ 63 → s + 2 * e ≤ 198 → x < 2 ^ 63 → Nat.gcd x y = Nat.gcd a b → V ω κ 3 [(0, .long (nJ x)), (2, .long (nJ y)), (4, .int (nI s))] [] σ
  | 0, s, x, y, hy, he, hs, hx, hg => by
    obtain rfl : y = 0 := by omega
    have hge : ¬ (200 : Int32) ≤ nI s := fun z => absurd ((nI_leI (a := 200) (by decide) (by omega)).mp z) (by omega)
    have hz : lg_cmp (nJ 0) 0 = 0 := (nJ_c0 (by omega)).mpr rfl
    rw [Nat.gcd_zero_right] at hg
    exact R_X3_commonDivisor_3 K (fun z_ => absurd z_ hge) (fun _ _ => ⟨by rw [hg], rfl⟩) (fun _ z_ => absurd hz z_) (fun _ z_ => absurd hz z_)
  | e + 1, s, x, y, hy, he, hs, hx, hg => by
    have hge : ¬ (200 : Int32) ≤ nI s := fun z => absurd ((nI_leI (a := 200) (by decide) (by omega)).mp z) (by omega)
    have hy63 : y < 2 ^ 63 := Nat.lt_of_lt_of_le hy (Nat.pow_le_pow_right (by omega) he)
    refine R_X3_commonDivisor_3 K (fun z_ => absurd z_ hge) (fun _ z => ⟨?_, rfl⟩) (fun _ z y0 => z (by rw [y0]; decide)) (fun _ z => ?_)
    · have y0 := (nJ_c0 hy63).mp z
      subst y0
      rw [Nat.gcd_zero_right] at hg
      rw [hg]
    · have y0 : y ≠ 0 := fun q => z ((nJ_c0 hy63).mpr q)
      rw [nJ_rem hx (by omega) hy63, nI_1]
      have hr := Nat.mod_lt x (show 0 < y by omega)
      have hg1 : Nat.gcd y (x % y) = Nat.gcd a b := by rw [← gcd_st]; exact hg
      have hge1 : ¬ (200 : Int32) ≤ nI (s + 1) := fun z => absurd ((nI_leI (a := 200) (by decide) (by omega)).mp z) (by omega)
      refine R_X3_commonDivisor_3 K (fun z_ => absurd z_ hge1) (fun _ z => ⟨?_, rfl⟩) (fun _ z y0 => z (by rw [y0]; decide)) (fun _ z => ?_)
      · have r0 := (nJ_c0 (by omega)).mp z
        rw [r0, Nat.gcd_zero_right] at hg1
        rw [hg1]
      · have r0 : x % y ≠ 0 := fun q => z ((nJ_c0 (by omega)).mpr q)
        rw [nJ_rem hy63 (by omega) (by omega), nI_1]
        have hh := half_rem r0 y0
        rw [Nat.pow_succ] at hy
        exact cd_loop K e (s + 1 + 1) (x % y) (y % (x % y)) (by omega) (by omega) (by omega) (by omega) (by rw [← gcd_st]; exact hg1)
theorem m_commonDivisor {a b : Nat} (hWf : Wf ω) (ha : a < 2 ^ 63) (hb : b < 2 ^ 63) : Sp ω l yX3_commonDivisor cX3_commonDivisor 7 (some .long) d [.long (nJ a), .long (nJ b)] σ (rJ (nJ (Nat.gcd a b)) σ) :=
  Sp.of (by decide) (Nat.le_of_ble_eq_true rfl) hWf (fun κ K => R_X3_commonDivisor_0 K (cd_loop K 63 0 a b hb (by omega) (by omega) ha rfl))
theorem ch_in : ∀ x, x < 8 → ∀ j, j < 9 → x + 1 < j → chK (x + 1) j = chK x j := by decide +kernel
theorem ch_st : ∀ x, x < 8 → ∀ k, k < 9 → 0 < k → chK x k + chK x (k - 1) = chK (x + 1) k := by decide +kernel
theorem cs_in {κ : KT} {x : Nat} {post : Option Value → St → Prop} (hx : x < 8) (K : Cm ω κ l yX3_countSets cX3_countSets 3 d none post)
    (fin : ∀ σ', Eqx [] [32] σ σ' → (∀ j, j < 9 → σ'.2.1 32 j = nI (chK (x + 1) j)) → V ω κ 17 [(0, .ref (ω.2.2.1 31)), (1, .int (nI (x + 1)))] [] σ') :
    ∀ k σq, k ≤ x + 1 → Eqx [] [32] σ σq → (∀ j, j < 9 → σq.2.1 32 j = nI (if k < j then chK (x + 1) j else chK x j)) → V ω κ 32 [(0, .ref (ω.2.2.1 31)), (1, .int (nI x)), (2, .int (nI k))] [] σq
  | 0, σq, hk, hE, h32 => by
    have hle : nI 0 ≤ (0 : Int32) := by decide
    refine R_X3_countSets_32 K (fun _ => ?_) (fun z_ => absurd hle z_) (fun z_ => absurd hle z_) (fun z_ => absurd hle z_) (fun z_ => absurd hle z_)
    rw [nI_1]
    refine fin σq hE (fun j hj => ?_)
    rw [h32 j hj]
    by_cases z : 0 < j
    · rw [if_pos z]
    · rw [if_neg z, show j = 0 by omega]
      congr 1
      cases x <;> rfl
  | k + 1, σq, hk, hE, h32 => by
    have hgt : ¬ nI (k + 1) ≤ (0 : Int32) := fun z => absurd ((nI_leI (b := 0) (by omega) (by omega)).mp z) (by omega)
    have e1 : nI (k + 1) - 1 = nI k := by rw [show (1 : Int32) = nI 1 from rfl, pk_sub (by omega), Nat.add_sub_cancel]
    refine R_X3_countSets_32 K (fun z_ => absurd z_ hgt) (fun _ => vp_in_nI (by omega) (by omega)) (fun _ => by rw [e1]; exact vp_in_nI (by omega) (by omega)) (fun _ => vp_in_nI (by omega) (by omega)) (fun _ => ?_)
    rw [e1, nI_clamp (by omega), nI_clamp (by omega), h32 (k + 1) (by omega), h32 k (by omega), if_neg (by omega), if_neg (by omega), nI_add, nI_pr (by omega), Nat.add_sub_cancel]
    have es := ch_st x hx (k + 1) (by omega) (by omega)
    rw [Nat.add_sub_cancel] at es
    rw [es]
    refine cs_in hx K fin k _ (by omega) (hE.pA (by simp) _ _) (fun j hj => ?_)
    show upd (σq.2.1 32) (k + 1) _ j = _
    by_cases z : j = k + 1
    · subst z; rw [pk_us, if_pos (by omega)]
    · rw [pk_un z, h32 j hj]
      congr 1
      by_cases z2 : k + 1 < j
      · rw [if_pos z2, if_pos (by omega)]
      · rw [if_neg z2, if_neg (by omega)]
theorem cs_out {κ : KT} {np : Nat} {post : Option Value → St → Prop} (hnp : np ≤ 8) (hp : σ.1 640 = nI np) (K : Cm ω κ l yX3_countSets cX3_countSets 3 d none post)
    (fin : ∀ σ', Eqx [] [32] σ σ' → (∀ j, j < 9 → σ'.2.1 32 j = nI (chK np j)) → post none σ') :
    ∀ i x σq, x + i = np → Eqx [] [32] σ σq → (∀ j, j < 9 → σq.2.1 32 j = nI (chK x j)) → V ω κ 17 [(0, .ref (ω.2.2.1 31)), (1, .int (nI x))] [] σq
  | 0, x, σq, h, hE, h32 => by
    obtain rfl : x = np := by omega
    have hle : σq.1 640 ≤ nI x := by rw [hE.1 640 (by decide), hp]; exact nI_le (Nat.le_refl _) (by omega)
    exact R_X3_countSets_17 K (fun _ => fin σq hE h32) (fun z_ => absurd hle z_)
  | i + 1, x, σq, h, hE, h32 => by
    have hge : ¬ σq.1 640 ≤ nI x := by
      rw [hE.1 640 (by decide), hp]
      exact fun z => absurd ((nI_leI (by omega) (by omega)).mp z) (by omega)
    refine R_X3_countSets_17 K (fun z_ => absurd z_ hge) (fun _ => ?_)
    rw [nI_1]
    refine cs_in (by omega) K (fun σ' hE' h' => cs_out hnp hp K fin i (x + 1) σ' (by omega) (hE.tr hE') h') (x + 1) σq (Nat.le_refl _) Eqx.rf (fun j hj => ?_)
    rw [h32 j hj]
    by_cases z : x + 1 < j
    · rw [if_pos z, ch_in x (by omega) j hj z]
    · rw [if_neg z]
theorem m_countSets {np : Nat} (hWf : Wf ω) (hd : 1 ≤ d) (hnp : np ≤ 8) (hp : σ.1 640 = nI np) : Sp ω l yX3_countSets cX3_countSets 3 none d [.ref (ω.2.2.1 31)] σ (fun v σ' => v = none ∧ (∀ j, j < 9 → σ'.2.1 32 j = nI (chK np j)) ∧ Eqx [] [32] σ σ') := by
  refine Sp.of (by decide) (Nat.le_of_ble_eq_true rfl) hWf (fun κ K => R_X3_countSets_0 K hd (vp_in_nI (n := 0) (by decide) (by decide)) ?_)
  have hE0 : Eqx [] [32] σ (pA (pF σ 32 (fillF (σ.2.1 32) 0 9)) 32 0 1) := (Eqx.rf.pF (by simp) _).pA (by simp) _ _
  refine cs_out (σ := pA (pF σ 32 (fillF (σ.2.1 32) 0 9)) 32 0 1) hnp hp K (fun σ' hE h => ⟨rfl, h, hE0.tr hE⟩) np 0 _ (by omega) Eqx.rf (fun j hj => ?_)
  show upd (fillF (σ.2.1 32) 0 9) 0 1 j = _
  by_cases z : j = 0
  · subst z; rw [pk_us]; rfl
  · rw [pk_un z, show fillF (σ.2.1 32) 0 9 j = 0 from if_pos hj]
    cases j with
    | zero => exact absurd rfl z
    | succ j => rfl
end LOT2
