/-! ===== the loops of a vote: class and model ===== -/
theorem nI_pr {n : Nat} (h : 0 < n) : nI n + -1 = nI (n - 1) := by
  obtain ⟨k, rfl⟩ : ∃ k, n = k + 1 := ⟨n - 1, by omega⟩
  exact pk_m1 k
theorem or_step {a s x : Nat} (h : s < 2 ^ x) : (a ||| s) ||| 2 ^ x = a ||| (s + 2 ^ x) := by
  rw [Nat.or_assoc, or_pow h]
theorem foS_top {s c n : Nat} (h : s < 2 ^ n) : ∀ k, foS s c (n + k) = foS s c n
  | 0 => rfl
  | k + 1 => by
    have e : s.testBit (n + k) = false := Nat.testBit_lt_two_pow (Nat.lt_of_lt_of_le h (Nat.pow_le_pow_right (by omega) (by omega)))
    rw [← Nat.add_assoc, foS, foS_top h k, if_neg (by rw [e]; simp)]
/-- firstOf -/
theorem firstOf_loop {ω : WT} {κ : KT} {l : Launch} {d s c : Nat} {σ : St} (hs : s < 256) (hc : c < 2 ^ 31) (K : Cm ω κ l yX2_firstOf cX2_firstOf 5 d (some .int) (rI (nI (foS s c 8).1) σ)) : ∀ j x, x + j = 8 → V ω κ 4 [(0, .int (nI s)), (1, .int (nI (foS s c x).2)), (2, .int (nI (foS s c x).1)), (3, .int (nI x))] [] σ
  | 0, x, h => by
    obtain rfl : x = 8 := by omega
    exact R_X2_firstOf_4 K (fun _ => ⟨rfl, rfl⟩) (fun h => absurd (by decide) h) (fun h => absurd (by decide) h) (fun h => absurd (by decide) h)
  | j + 1, x, h => by
    obtain ⟨h1, h2, h3⟩ := foS_ok s c x
    have hx : ¬ (8 : Int32) ≤ nI x := fun h2 => absurd ((nI_leI (a := 8) (by omega) (by omega)).mp h2) (by omega)
    have ih := firstOf_loop hs hc K j (x + 1) (by omega)
    refine R_X2_firstOf_4 K (fun h2 => absurd h2 hx) (fun _ hc0 => ?_) (fun _ hc0 hb => ?_) (fun _ hc0 hb => ?_)
    · have e0 : (foS s c x).2 = 0 := by
        have := (nI_leI (a := (foS s c x).2) (b := 0) (by omega) (by omega)).mp hc0
        omega
      have := foS_stop e0 (8 - x)
      rw [show x + (8 - x) = 8 by omega] at this
      rw [this]
      exact ⟨rfl, rfl⟩
    · have e : s.testBit x = false := (nI_bit0 (by omega)).mp hb
      rw [foS, if_neg (by rw [e]; simp)] at ih
      rw [nI_1]
      exact ih
    · have e : s.testBit x = true := by
        cases q : s.testBit x
        · exact absurd ((nI_bit0 (by omega)).mpr q) hb
        · rfl
      have e2 : 0 < (foS s c x).2 := by
        rcases Nat.eq_zero_or_pos (foS s c x).2 with z | z
        · exact absurd (by rw [z]; decide) hc0
        · exact z
      have e3 : nI s &&& ((1 : Int32) <<< (nI x &&& 31)) = nI (2 ^ x) := by
        rw [sh1 x (by omega), fa_and]
        congr 1
        apply Nat.eq_of_testBit_eq
        intro i
        rw [Nat.testBit_and, Nat.testBit_two_pow]
        by_cases hi : x = i
        · subst hi; simp [e]
        · simp [hi]
      rw [foS, if_pos ⟨e, e2⟩] at ih
      rw [e3, fa_or, or_pow h1, nI_pr e2, nI_1]
      exact ih
theorem m_firstOf {ω : WT} {l : Launch} {d s c : Nat} {σ : St} (hWf : Wf ω) (hs : s < 256) (hc : c < 2 ^ 31) : Sp ω l yX2_firstOf cX2_firstOf 5 (some .int) d [.int (nI s), .int (nI c)] σ (rI (nI (foS s c 8).1) σ) :=
  Sp.of (by decide) (Nat.le_of_ble_eq_true rfl) hWf (fun κ K => R_X2_firstOf_0 K (firstOf_loop hs hc K 8 0 rfl))
/-- inTurn -/
theorem rndS_ok {np last : Nat} (hl : last < np) (hnp : np ≤ 8) : ∀ k, (rndS np last k).2 < np ∧ (rndS np last k).1 < 256
  | 0 => ⟨hl, by simp [rndS]⟩
  | k + 1 => by
    obtain ⟨h1, h2⟩ := rndS_ok hl hnp k
    have h3 : ((rndS np last k).2 + 1) % np < np := Nat.mod_lt _ (by omega)
    refine ⟨h3, ?_⟩
    show (rndS np last k).1 ||| 2 ^ (((rndS np last k).2 + 1) % np) < 2 ^ 8
    exact Nat.or_lt_two_pow h2 (Nat.pow_lt_pow_right (by omega) (by omega))
theorem inTurn_loop {ω : WT} {κ : KT} {l : Launch} {d np last n : Nat} {σ : St} (hn : σ.1 901 = nI n) (hp : σ.1 640 = nI np) (hnp : np ≤ 8) (hl : last < np) (hn8 : n ≤ 8) (K : Cm ω κ l yX2_inTurn cX2_inTurn 4 d (some .int) (rI (nI ((rndS np last n).2 * 256 + (rndS np last n).1)) σ)) : ∀ j k, k + j = n → V ω κ 4 [(0, .ref (ω.2.2.1 14)), (1, .int (nI (rndS np last k).2)), (2, .int (nI (rndS np last k).1)), (3, .int (nI k))] [] σ
  | 0, k, h => by
    obtain rfl : k = n := by omega
    obtain ⟨h1, h2⟩ := rndS_ok hl hnp k
    refine R_X2_inTurn_4 K (fun _ => ⟨?_, rfl⟩) (fun h => absurd (by rw [hn]; exact nI_le (Nat.le_refl _) (by omega)) h)
    rw [show (256 : Int32) = nI 256 from rfl, pk_mul, nI_add]
  | j + 1, k, h => by
    obtain ⟨h1, h2⟩ := rndS_ok hl hnp k
    have ih := inTurn_loop hn hp hnp hl hn8 K j (k + 1) (by omega)
    refine R_X2_inTurn_4 K (fun h2 => absurd (by rw [hn] at h2; exact (nI_leI (by omega) (by omega)).mp h2) (by omega)) (fun _ => ?_)
    have e : (if σ.1 640 ≤ nI (rndS np last k).2 + 1 then (0 : Int32) else nI (rndS np last k).2 + 1) = nI (((rndS np last k).2 + 1) % np) := by
      rw [hp, nI_1]
      by_cases q : np ≤ (rndS np last k).2 + 1
      · rw [if_pos (nI_le q (by omega))]
        have : (rndS np last k).2 + 1 = np := by omega
        rw [this, Nat.mod_self]
        rfl
      · rw [if_neg (fun z => q ((nI_leI (by omega) (by omega)).mp z)), Nat.mod_eq_of_lt (by omega)]
    have h3 : ((rndS np last k).2 + 1) % np < np := Nat.mod_lt _ (by omega)
    rw [e, sh1 _ (by omega), fa_or, nI_1]
    exact ih
theorem m_inTurn {ω : WT} {l : Launch} {d np last n : Nat} {σ : St} (hWf : Wf ω) (hn : σ.1 901 = nI n) (hp : σ.1 640 = nI np) (hnp : np ≤ 8) (hl : last < np) (hn8 : n ≤ 8) : Sp ω l yX2_inTurn cX2_inTurn 4 (some .int) d [.ref (ω.2.2.1 14), .int (nI last)] σ (rI (nI ((rndS np last n).2 * 256 + (rndS np last n).1)) σ) :=
  Sp.of (by decide) (Nat.le_of_ble_eq_true rfl) hWf (fun κ K => R_X2_inTurn_0 K (inTurn_loop hn hp hnp hl hn8 K n 0 (by omega)))
/-- the model's seatRound -/
theorem seatRound_loop {ω : WT} {κ : KT} {l : Launch} {d np last n : Nat} {σ : St} (hn : σ.1 2266 = nI n) (hp : σ.1 2245 = nI np) (hnp : np ≤ 8) (hl : last < np) (hn8 : n ≤ 8) (K : Cm ω κ l yX9_seatRound cX9_seatRound 3 d none (rV (pS (pS σ 2260 (nI (rndS np last n).2)) 2258 (nI (rndS np last n).1)))) : ∀ j k, k + j = n → V ω κ 4 [(0, .ref (ω.2.2.1 35)), (1, .int (nI (rndS np last k).1)), (2, .int (nI k))] [] (pS σ 2260 (nI (rndS np last k).2))
  | 0, k, h => by
    obtain rfl : k = n := by omega
    exact R_X9_seatRound_4 K (fun _ => ⟨rfl, rfl⟩) (fun h => absurd (by show σ.1 2266 ≤ _; rw [hn]; exact nI_le (Nat.le_refl _) (by omega)) h) (fun h => absurd (by show σ.1 2266 ≤ _; rw [hn]; exact nI_le (Nat.le_refl _) (by omega)) h)
  | j + 1, k, h => by
    obtain ⟨h1, h2⟩ := rndS_ok hl hnp k
    have ih := seatRound_loop hn hp hnp hl hn8 K j (k + 1) (by omega)
    have h3 : ((rndS np last k).2 + 1) % np < np := Nat.mod_lt _ (by omega)
    refine R_X9_seatRound_4 K (fun h2 => absurd (by have h2 : σ.1 2266 ≤ _ := h2; rw [hn] at h2; exact (nI_leI (by omega) (by omega)).mp h2) (by omega)) (fun _ => ?_) (fun _ => ?_)
    · show ¬ σ.1 2245 = 0
      rw [hp]
      exact nI_ne0 (by omega) (by omega)
    · have e : ((pS σ 2260 (nI (rndS np last k).2)).1 2260 + 1) - ((pS σ 2260 (nI (rndS np last k).2)).1 2260 + 1) / (pS σ 2260 (nI (rndS np last k).2)).1 2245 * (pS σ 2260 (nI (rndS np last k).2)).1 2245 = nI (((rndS np last k).2 + 1) % np) := by
        show (nI (rndS np last k).2 + 1) - (nI (rndS np last k).2 + 1) / σ.1 2245 * σ.1 2245 = _
        rw [hp, nI_1, pk_rem (by omega) (by omega) (by omega)]
      rw [e, sh1 _ (by omega), fa_or, nI_1, pS_over]
      exact ih
theorem m_seatRound {ω : WT} {l : Launch} {d np last n : Nat} {σ : St} (hWf : Wf ω) (hn : σ.1 2266 = nI n) (hp : σ.1 2245 = nI np) (hls : σ.1 2260 = nI last) (hnp : np ≤ 8) (hl : last < np) (hn8 : n ≤ 8) : Sp ω l yX9_seatRound cX9_seatRound 3 none d [.ref (ω.2.2.1 35)] σ (rV (pS (pS σ 2260 (nI (rndS np last n).2)) 2258 (nI (rndS np last n).1))) :=
  Sp.of (by decide) (Nat.le_of_ble_eq_true rfl) hWf (fun κ K => R_X9_seatRound_0 K (by
    have h := seatRound_loop hn hp hnp hl hn8 K n 0 (by omega)
    have e : pS σ 2260 (nI (rndS np last 0).2) = σ := pS_self σ 2260 hls
    rw [e] at h
    exact h))
