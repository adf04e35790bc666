/-! ===== towns as numbers, in both systems; the loops of a vote ===== -/
abbrev Tn : Type := Nat × Nat × Nat × Nat × Nat × (Nat → Nat) × (Nat → Nat → Bool) × (Nat → Nat)
abbrev tnp (t : Tn) : Nat := t.1
abbrev tnm (t : Tn) : Nat := t.2.1
abbrev tme (t : Tn) : Nat := t.2.2.1
abbrev tla (t : Tn) : Nat := t.2.2.2.1
abbrev tit (t : Tn) : Nat := t.2.2.2.2.1
abbrev tkd (t : Tn) : Nat → Nat := t.2.2.2.2.2.1
abbrev tws (t : Tn) : Nat → Nat → Bool := t.2.2.2.2.2.2.1
abbrev tag (t : Tn) : Nat → Nat := t.2.2.2.2.2.2.2
/-- a town as the document has it, or none -/
def TO (t : Tn) : Prop := tnp t ≤ 8 ∧ tnm t ≤ 6 ∧ tme t ≤ 3 ∧ tla t ≤ 2 ∧ tit t ≤ 6 ∧ (∀ x, tkd t x ≤ 2) ∧ (∀ q, q < tit t → tag t q < tnm t) ∧ (∀ p q, p < q → q < tit t → tag t p ≠ tag t q) ∧ ((tnp t = 0 ∧ tnm t = 0 ∧ tit t = 0 ∧ tme t = 0 ∧ tla t = 0) ∨ (2 ≤ tnp t ∧ 1 ≤ tnm t ∧ 1 ≤ tit t))
def TC (t : Tn) (σ : St) : Prop := σ.1 640 = nI (tnp t) ∧ σ.1 641 = nI (tnm t) ∧ σ.1 642 = nI (tme t) ∧ σ.1 643 = nI (tla t) ∧ σ.1 644 = nI (tit t) ∧ σ.1 645 = nI (bs (fun x => tkd t x == 2) (tnp t)) ∧ σ.1 646 = nI (bs (fun x => tkd t x != 0) (tnp t)) ∧ (∀ x, x < tnp t → σ.2.1 11 x = nI (tkd t x)) ∧ (∀ m, m < tnm t → σ.2.1 12 m = nI (bs (fun x => tws t x m) (tnp t))) ∧ ∀ q, q < tit t → σ.2.1 13 q = nI (tag t q)
def TM (t : Tn) (σ : St) : Prop := σ.1 2245 = nI (tnp t) ∧ σ.1 2246 = nI (tnm t) ∧ σ.1 2249 = nI (tme t) ∧ σ.1 2250 = nI (tla t) ∧ σ.1 2251 = nI (tit t) ∧ (∀ x, x < tnp t → σ.2.1 39 x = nI (tkd t x)) ∧ (∀ x, x < tnp t → σ.2.1 40 x = nI (bs (tws t x) (tnm t))) ∧ ∀ q, q < tit t → σ.2.1 41 q = nI (tag t q)
theorem pS_over (σ : St) (k : Nat) (a b : Int32) : pS (pS σ k a) k b = pS σ k b := by
  simp only [pS]
  congr 1
  funext j
  by_cases h : j = k <;> simp [h]
theorem pS_swap (σ : St) {k k' : Nat} (h : k ≠ k') (a b : Int32) : pS (pS σ k a) k' b = pS (pS σ k' b) k a := by
  simp only [pS]
  congr 1
  funext j
  by_cases h1 : j = k
  · subst h1; simp [h]
  · by_cases h2 : j = k' <;> simp [h1, h2, Ne.symm h]
theorem pS_self (σ : St) (k : Nat) {a : Int32} (h : σ.1 k = a) : pS σ k a = σ := by
  simp only [pS]
  apply Prod.ext
  · funext j
    by_cases e : j = k
    · subst e; simp [h]
    · simp [e]
  · rfl
theorem pA_pF (σ : St) (k i : Nat) (f : Nat → Int32) (v : Int32) : pA (pF σ k f) k i v = pF σ k (upd f i v) := by
  simp only [pA, pF]
  congr 2
  funext j
  by_cases h : j = k <;> simp [h]
theorem pM_pG (σ : St) (k i : Nat) (f : Nat → Int64) (v : Int64) : pM (pG σ k f) k i v = pG σ k (vp_updL f i v) := by
  simp only [pM, pG]
  congr 3
  funext j
  by_cases h : j = k <;> simp [h]
theorem pF_self (σ : St) (k : Nat) : pF σ k (σ.2.1 k) = σ := by
  simp only [pF]
  apply Prod.ext
  · rfl
  · apply Prod.ext
    · funext j
      by_cases e : j = k <;> simp [e]
    · rfl
theorem pG_self (σ : St) (k : Nat) : pG σ k (σ.2.2.2 k) = σ := by
  simp only [pG]
  apply Prod.ext
  · rfl
  · apply Prod.ext
    · rfl
    · apply Prod.ext
      · rfl
      · funext j
        by_cases e : j = k <;> simp [e]
theorem shpA_n {k a n : Nat} (h : shpA k = some (a, n)) : n ≤ 4096 := by
  unfold shpA at h
  split at h <;> first | (cases h; decide) | cases h
/-- Integer.bitCount, by its steps -/
def F_bc (x : Int32) : Int32 :=
  let a := x - ((x.toUInt32 >>> ((1 : Int32).toUInt32 &&& Int32.toUInt32 31)).toInt32 &&& (1431655765 : Int32))
  let b := (a &&& (858993459 : Int32)) + ((a.toUInt32 >>> ((2 : Int32).toUInt32 &&& Int32.toUInt32 31)).toInt32 &&& (858993459 : Int32))
  let c := (b + (b.toUInt32 >>> ((4 : Int32).toUInt32 &&& Int32.toUInt32 31)).toInt32) &&& (252645135 : Int32)
  let e := c + (c.toUInt32 >>> ((8 : Int32).toUInt32 &&& Int32.toUInt32 31)).toInt32
  (e + (e.toUInt32 >>> ((16 : Int32).toUInt32 &&& Int32.toUInt32 31)).toInt32) &&& (63 : Int32)
theorem F_bc_n : ∀ s, s < 256 → F_bc (nI s) = nI (cb s 8) := by decide +kernel
theorem m_J6_bitCount_0f7a4 {ω : WT} {l : Launch} {d : Nat} {σ : St} {x0 : Int32} (hWf : Wf ω) (_hd : 0 ≤ d) : Sp ω l yJ6_bitCount_0f7a4 cJ6_bitCount_0f7a4 1 (some .int) d [.int x0] σ (rI (F_bc x0) σ) :=
  Sp.ofF plJ_bits (Nat.le_of_ble_eq_true rfl) hWf (fun κ K => R_J6_bitCount_0f7a4_0 K (R_J6_bitCount_0f7a4_10 K (R_J6_bitCount_0f7a4_24 K (R_J6_bitCount_0f7a4_34 K (R_J6_bitCount_0f7a4_41 K (R_J6_bitCount_0f7a4_48 K ⟨rfl, rfl⟩))))))
/-- the model's bits -/
def F_bits (x : Int32) : Nat → Int32
  | 0 => 0
  | k + 1 => F_bits x k + ((x >>> (nI k &&& 31)) &&& 1)
theorem F_bits_n {s : Nat} (hs : s < 2 ^ 31) : ∀ k, k ≤ 31 → F_bits (nI s) k = nI (cb s k)
  | 0, _ => rfl
  | k + 1, h => by
    rw [F_bits, F_bits_n hs k (by omega), nI_bit hs (by omega), nI_add, cb]
theorem bits_loop {ω : WT} {κ : KT} {l : Launch} {d : Nat} {σ : St} {x0 : Int32} (K : Cm ω κ l yX9_bits cX9_bits 3 d (some .int) (rI (F_bits x0 20) σ)) : ∀ j k, k + j = 20 → V ω κ 4 [(0, .int x0), (1, .int (F_bits x0 k)), (2, .int (nI k))] [] σ
  | 0, k, h => by
    obtain rfl : k = 20 := by omega
    exact R_X9_bits_4 K (fun _ => ⟨rfl, rfl⟩) (fun h => absurd (by decide) h)
  | j + 1, k, h => by
    refine R_X9_bits_4 K (fun h2 => absurd ((nI_leI (a := 20) (by omega) (by omega)).mp h2) (by omega)) (fun _ => ?_)
    rw [nI_1]
    exact bits_loop K j (k + 1) (by omega)
theorem m_X9_bits {ω : WT} {l : Launch} {d : Nat} {σ : St} {x0 : Int32} (hWf : Wf ω) (_hd : 0 ≤ d) : Sp ω l yX9_bits cX9_bits 3 (some .int) d [.int x0] σ (rI (F_bits x0 20) σ) :=
  Sp.of (by decide) (Nat.le_of_ble_eq_true rfl) hWf (fun κ K => R_X9_bits_0 K (bits_loop K 20 0 rfl))
/-- Arrays.fill -/
def fillF {α : Type} (f : Nat → α) (v : α) (n : Nat) : Nat → α := fun q => if q < n then v else f q
theorem fillF_s (f : Nat → Int32) (v : Int32) (n : Nat) : upd (fillF f v n) n v = fillF f v (n + 1) := by
  funext q
  simp only [upd, fillF]
  by_cases h : q = n
  · subst h; simp
  · by_cases h2 : q < n
    · simp [h, h2]; omega
    · rw [if_neg h, if_neg h2, if_neg (by omega)]
theorem fillF_sL (f : Nat → Int64) (v : Int64) (n : Nat) : vp_updL (fillF f v n) n v = fillF f v (n + 1) := by
  funext q
  simp only [vp_updL, fillF]
  by_cases h : q = n
  · subst h; simp
  · by_cases h2 : q < n
    · simp [h, h2]; omega
    · rw [if_neg h, if_neg h2, if_neg (by omega)]
theorem fill_loop {ω : WT} {κ : KT} {l : Launch} {d k n : Nat} {σ : St} {x1 : Int32} (hk : shpA k = some (0, n)) (K : Cm ω κ l yJ7_fill_53178 cJ7_fill_53178 4 d none (rV (pF σ k (fillF (σ.2.1 k) x1 n)))) : ∀ j i, i + j = n → V ω κ 5 [(0, .ref (ω.2.2.1 k)), (1, .int x1), (2, .int (nI i)), (3, .int (nI n))] [] (pF σ k (fillF (σ.2.1 k) x1 i))
  | 0, i, h => by
    have hn := shpA_n hk
    obtain rfl : i = n := by omega
    exact R_J7_fill_53178_5 hk K (fun _ => ⟨rfl, rfl⟩) (fun h => absurd (nI_le (Nat.le_refl _) (by omega)) h) (fun h => absurd (nI_le (Nat.le_refl _) (by omega)) h)
  | j + 1, i, h => by
    have hn := shpA_n hk
    refine R_J7_fill_53178_5 hk K (fun h2 => absurd ((nI_leI (by omega) (by omega)).mp h2) (by omega)) (fun _ => vp_in_nI (by omega) (by omega)) (fun _ => ?_)
    rw [nI_1, nI_clamp (by omega), pA_pF, fillF_s]
    exact fill_loop hk K j (i + 1) (by omega)
theorem m_J7_fill_53178 {ω : WT} {l : Launch} {d : Nat} {σ : St} {x1 : Int32} {n k : Nat} (hk : shpA k = some (0, n)) (hWf : Wf ω) (_hd : 0 ≤ d) : Sp ω l yJ7_fill_53178 cJ7_fill_53178 4 none d [.ref (ω.2.2.1 k), .int x1] σ (rV (pF σ k (fillF (σ.2.1 k) x1 n))) :=
  Sp.ofF plJ_fill (Nat.le_of_ble_eq_true rfl) hWf (fun κ K => R_J7_fill_53178_0 hk K (by
    have h := fill_loop hk K n 0 (by omega)
    have e : fillF (σ.2.1 k) x1 0 = σ.2.1 k := by funext q; simp [fillF]
    rw [e, pF_self] at h
    exact h))
theorem fillL_loop {ω : WT} {κ : KT} {l : Launch} {d k n : Nat} {σ : St} {x1 : Int64} (hk : shpA k = some (1, n)) (K : Cm ω κ l yJ7_fill_d0a16 cJ7_fill_d0a16 5 d none (rV (pG σ k (fillF (σ.2.2.2 k) x1 n)))) : ∀ j i, i + j = n → V ω κ 6 [(0, .ref (ω.2.2.1 k)), (1, .long x1), (3, .int (nI i)), (4, .int (nI n))] [] (pG σ k (fillF (σ.2.2.2 k) x1 i))
  | 0, i, h => by
    have hn := shpA_n hk
    obtain rfl : i = n := by omega
    exact R_J7_fill_d0a16_6 hk K (fun _ => ⟨rfl, rfl⟩) (fun h => absurd (nI_le (Nat.le_refl _) (by omega)) h) (fun h => absurd (nI_le (Nat.le_refl _) (by omega)) h)
  | j + 1, i, h => by
    have hn := shpA_n hk
    refine R_J7_fill_d0a16_6 hk K (fun h2 => absurd ((nI_leI (by omega) (by omega)).mp h2) (by omega)) (fun _ => vp_in_nI (by omega) (by omega)) (fun _ => ?_)
    rw [nI_1, nI_clamp (by omega), pM_pG, fillF_sL]
    exact fillL_loop hk K j (i + 1) (by omega)
theorem m_J7_fill_d0a16 {ω : WT} {l : Launch} {d : Nat} {σ : St} {x1 : Int64} {n k : Nat} (hk : shpA k = some (1, n)) (hWf : Wf ω) (_hd : 0 ≤ d) : Sp ω l yJ7_fill_d0a16 cJ7_fill_d0a16 5 none d [.ref (ω.2.2.1 k), .long x1] σ (rV (pG σ k (fillF (σ.2.2.2 k) x1 n))) :=
  Sp.ofF plJ_fillL (Nat.le_of_ble_eq_true rfl) hWf (fun κ K => R_J7_fill_d0a16_0 hk K (by
    have h := fillL_loop hk K n 0 (by omega)
    have e : fillF (σ.2.2.2 k) x1 0 = σ.2.2.2 k := by funext q; simp [fillF]
    rw [e, pG_self] at h
    exact h))
