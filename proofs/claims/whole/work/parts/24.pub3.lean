/-! ===== wish, tell ===== -/
section SMALL3
variable {ω : WT} {l : Launch} {d : Nat} {a : Ab} {σ : St}
abbrev tSetWs (t : Tn) (i m : Nat) (b : Bool) : Tn := (t.1, t.2.1, t.2.2.1, t.2.2.2.1, t.2.2.2.2.1, t.2.2.2.2.2.1, fun x k => if x = i ∧ k = m then b else tws t x k, t.2.2.2.2.2.2.2)
def o_wish (a : Ab) (x m y : Int32) : Int32 × Ab := match ix x (tnp (att a)) with
  | none => (-1, a)
  | some i => match ix m (tnm (att a)) with
    | none => (-1, a)
    | some k => if tws (att a) i k = (y == 1) then (0, a) else (1, setT a (tSetWs (att a) i k (y == 1)))
theorem tws_flip {t : Tn} {i k : Nat} {b : Bool} (h : ¬ tws t i k = b) (x : Nat) : (tws t x k ^^ (2 ^ i).testBit x) = (if x = i ∧ k = k then b else tws t x k) := by
  rw [Nat.testBit_two_pow]
  by_cases e : x = i
  · subst e
    cases h1 : tws t x k <;> cases b <;> simp_all
  · have : ¬ i = x := fun z => e z.symm
    simp [e, this]
theorem TC.ws {t : Tn} {σ : St} (h : TC t σ) (hO : TO t) {i k : Nat} (hi : i < tnp t) (hk : k < tnm t) {b : Bool} (hb : ¬ tws t i k = b) : TC (tSetWs t i k b) (pA σ 12 k (nI (bs (fun x => tws t x k) (tnp t)) ^^^ nI (2 ^ i))) := by
  have hp : 2 ^ i < 2 ^ tnp t := Nat.pow_lt_pow_right (by omega) hi
  refine ⟨h.1, h.2.1, h.2.2.1, h.2.2.2.1, h.2.2.2.2.1, h.2.2.2.2.2.1, h.2.2.2.2.2.2.1, h.2.2.2.2.2.2.2.1, fun m hm => ?_, h.2.2.2.2.2.2.2.2.2⟩
  show upd (σ.2.1 12) k _ m = nI (bs (fun x => if x = i ∧ m = k then b else tws t x m) (tnp t))
  by_cases e : m = k
  · subst e
    rw [pk_us, fb_xorI, xor_bs hp]
    congr 1
    exact bs_cong (fun x _ => by rw [tws_flip hb])
  · rw [pk_un e, h.2.2.2.2.2.2.2.2.1 m hm]
    congr 1
    exact bs_cong (fun x _ => by simp [e])
theorem c_wish {x m y : Int32} (hWf : Wf ω) (hd : 1 ≤ d) (hA : AO a) (hR : RC a σ) (hy : y = 0 ∨ y = 1) : Sp ω l yX8_wish cX8_wish 4 (some .int) d [.ref (ω.2.2.1 0), .int x, .int m, .int y] σ (PC (o_wish a x m y).1 (o_wish a x m y).2 σ) := by
  have hnp := hA.1.1
  have hnm := hA.1.2.1
  refine Sp.of (by decide) (Nat.le_of_ble_eq_true rfl) hWf (fun κ K => R_X8_wish_0 K hd (fun h0 => ?_) (fun h0 h1 => ?_) (fun h0 h1 h2 => ?_) (fun h0 h1 h2 => ?_) (fun h0 h1 h2 => ?_) (fun h0 h1 h2 => ?_) (fun h0 h1 => ?_))
  · rw [hR.1.1] at h0
    unfold o_wish
    simp only [rg0 hA.np h0]
    exact PC.at rfl hR EC.rf
  · rw [hR.1.2.1] at h1
    obtain ⟨k, hk, rfl, -⟩ := rg1 hA.nm h1
    exact vp_in_nI (by omega) (by omega)
  · rw [hR.1.2.1] at h1
    obtain ⟨k, hk, rfl, -⟩ := rg1 hA.nm h1
    exact vp_in_nI (by omega) (by omega)
  · rw [hR.1.2.1] at h1
    obtain ⟨k, hk, rfl, -⟩ := rg1 hA.nm h1
    exact vp_in_nI (by omega) (by omega)
  · rw [hR.1.1] at h0
    rw [hR.1.2.1] at h1
    obtain ⟨i, hi, rfl, e⟩ := rg1 hA.np h0
    obtain ⟨k, hk, rfl, e2⟩ := rg1 hA.nm h1
    rw [wy_bit hR.1 hA.1 hi hk] at h2
    have hne : ¬ tws (att a) i k = (y == 1) := by
      intro z
      apply h2
      rw [z]
      rcases hy with rfl | rfl <;> rfl
    unfold o_wish
    simp only [e, e2, if_neg hne]
    rw [nI_clamp (by omega), hR.1.2.2.2.2.2.2.2.2.1 k hk, sh1 i (by omega)]
    exact PC.at rfl (hR.town (ks := []) (as := [12]) (hR.1.ws hA.1 hi hk hne) (Eqx.rf.pA (by simp) _ _) (by decide) (by decide)) (EC.of (ks := []) (as := [12]) (Eqx.rf.pA (by simp) _ _) (by decide) (by decide))
  · rw [hR.1.1] at h0
    rw [hR.1.2.1] at h1
    obtain ⟨i, hi, rfl, e⟩ := rg1 hA.np h0
    obtain ⟨k, hk, rfl, e2⟩ := rg1 hA.nm h1
    rw [wy_bit hR.1 hA.1 hi hk] at h2
    have he : tws (att a) i k = (y == 1) := by
      cases q : tws (att a) i k <;> rw [q] at h2 <;> rcases hy with rfl | rfl <;> first | rfl | exact absurd h2 (by decide)
    unfold o_wish
    simp only [e, e2, if_pos he]
    exact PC.at rfl hR EC.rf
  · rw [hR.1.1] at h0
    rw [hR.1.2.1] at h1
    obtain ⟨i, hi, rfl, e⟩ := rg1 hA.np h0
    unfold o_wish
    simp only [e, rg0 hA.nm h1]
    exact PC.at rfl hR EC.rf
theorem m63 : ∀ m, m < 6 → ∀ k, k < 6 → (63 - 2 ^ m).testBit k = decide (k ≠ m) := by decide +kernel
theorem bs_set {p : Nat → Bool} {n m : Nat} (hm : m < n) (hn : n ≤ 6) (b : Bool) : (if b then bs p n ||| 2 ^ m else bs p n &&& (63 - 2 ^ m)) = bs (fun k => if k = m then b else p k) n := by
  cases b
  · rw [if_neg (by decide)]
    apply Nat.eq_of_testBit_eq
    intro k
    rw [Nat.testBit_and, bs_bit, bs_bit]
    by_cases hk : k < n
    · rw [m63 m (by omega) k (by omega)]
      by_cases e : k = m <;> simp [e, hk, hm]
    · simp [hk]
  · rw [if_pos rfl]
    apply Nat.eq_of_testBit_eq
    intro k
    rw [Nat.testBit_or, bs_bit, bs_bit, Nat.testBit_two_pow]
    by_cases e : k = m
    · subst e; simp [hm]
    · have : ¬ m = k := fun z => e z.symm
      simp [e, this]
theorem TM.ws {t : Tn} {σ : St} (h : TM t σ) {i k : Nat} (b : Bool) : TM (tSetWs t i k b) (pA σ 40 i (nI (bs (fun m => if m = k then b else tws t i m) (tnm t)))) := by
  refine ⟨h.1, h.2.1, h.2.2.1, h.2.2.2.1, h.2.2.2.2.1, h.2.2.2.2.2.1, fun x hx => ?_, h.2.2.2.2.2.2.2⟩
  show upd (σ.2.1 40) i _ x = nI (bs (fun m => if x = i ∧ m = k then b else tws t x m) (tnm t))
  by_cases e : x = i
  · subst e
    rw [pk_us]
    congr 1
    exact bs_cong (fun m _ => by simp)
  · rw [pk_un e, h.2.2.2.2.2.2.1 x hx]
    congr 1
    exact bs_cong (fun m _ => by simp [e])
theorem bs_eq_iff {p : Nat → Bool} {n m : Nat} (hm : m < n) (b : Bool) : bs (fun k => if k = m then b else p k) n = bs p n ↔ p m = b := by
  constructor
  · intro h
    have h1 := bs_bit (fun k => if k = m then b else p k) n m
    rw [h, bs_bit] at h1
    simp [hm] at h1
    exact h1
  · intro h
    refine bs_cong (fun k _ => ?_)
    by_cases e : k = m
    · subst e; simp [h]
    · simp [e]
theorem d_wish {x m y : Int32} (hWf : Wf ω) (hd : 1 ≤ d) (hA : AO a) (hR : RM a σ) (hy : y = 0 ∨ y = 1) : Sp ω l yX9_wish cX9_wish 6 (some .int) d [.ref (ω.2.2.1 35), .int x, .int m, .int y] σ (PM (o_wish a x m y).1 (o_wish a x m y).2 σ) := by
  have hnp := hA.1.1
  have hnm := hA.1.2.1
  refine Sp.of (by decide) (Nat.le_of_ble_eq_true rfl) hWf (fun κ K => R_X9_wish_0 K hd (fun h0 => ?_) (fun h0 h1 => ?_) (fun h0 h1 => ?_) (fun h0 h1 => ?_) (fun h0 h1 => ?_) (fun h0 h1 => ?_))
  · rw [hR.1.1] at h0
    unfold o_wish
    simp only [rg0 hA.np h0]
    exact PM.at rfl hR EM.rf
  · rw [hR.1.1] at h0
    obtain ⟨i, hi, rfl, -⟩ := rg1 hA.np h0
    exact vp_in_nI (by omega) (by omega)
  · rw [hR.1.1] at h0
    obtain ⟨i, hi, rfl, -⟩ := rg1 hA.np h0
    exact vp_in_nI (by omega) (by omega)
  · rw [hR.1.1] at h0
    obtain ⟨i, hi, rfl, -⟩ := rg1 hA.np h0
    exact vp_in_nI (by omega) (by omega)
  · rw [hR.1.1] at h0
    rw [hR.1.2.1] at h1
    obtain ⟨i, hi, rfl, e⟩ := rg1 hA.np h0
    obtain ⟨k, hk, rfl, e2⟩ := rg1 hA.nm h1
    have hp : 2 ^ k < 64 := Nat.lt_of_lt_of_le (Nat.pow_lt_pow_right (by omega) hk) (Nat.pow_le_pow_right (n := 2) (by omega) hnm)
    have e3 : (if y = 0 then σ.2.1 40 (nI i).toNatClampNeg &&& (63 - ((1 : Int32) <<< (nI k &&& 31))) else σ.2.1 40 (nI i).toNatClampNeg ||| ((1 : Int32) <<< (nI k &&& 31))) = nI (bs (fun m => if m = k then (y == 1) else tws (att a) i m) (tnm (att a))) := by
      rw [nI_clamp (by omega), hR.1.2.2.2.2.2.2.1 i hi, sh1 k (by omega), ← bs_set hk hnm (y == 1)]
      rcases hy with rfl | rfl
      · rw [if_pos rfl, if_neg (by decide), show (63 : Int32) = nI 63 from rfl, pk_sub (by omega), fa_and]
      · rw [if_neg (by decide), if_pos (by decide), fa_or]
    rw [e3, nI_clamp (by omega)]
    have e4 : (pA σ 40 i (nI (bs (fun m => if m = k then (y == 1) else tws (att a) i m) (tnm (att a))))).2.1 40 i = nI (bs (fun m => if m = k then (y == 1) else tws (att a) i m) (tnm (att a))) := pk_us
    rw [e4, hR.1.2.2.2.2.2.2.1 i hi]
    have hl1 := bs_lt (fun m => if m = k then (y == 1) else tws (att a) i m) (tnm (att a))
    have hl2 := bs_lt (tws (att a) i) (tnm (att a))
    have h6 : 2 ^ tnm (att a) ≤ 2 ^ 6 := Nat.pow_le_pow_right (by omega) hnm
    have hiff := bs_eq_iff (p := tws (att a) i) hk (y == 1)
    have hM := hR.town (ks := []) (as := [40]) (hR.1.ws (i := i) (k := k) (y == 1)) (Eqx.rf.pA (by simp) _ _) (by decide) (by decide)
    have hEM : EM σ (pA σ 40 i (nI (bs (fun m => if m = k then (y == 1) else tws (att a) i m) (tnm (att a))))) := EM.of (ks := []) (as := [40]) (Eqx.rf.pA (by simp) _ _) (by decide) (by decide)
    unfold o_wish
    simp only [e, e2]
    by_cases q : tws (att a) i k = (y == 1)
    · rw [if_pos q, if_pos (by rw [hiff.mpr q])]
      refine PM.at rfl ?_ hEM
      have ht : tSetWs (att a) i k (y == 1) = att a := by
        have : (fun x m => if x = i ∧ m = k then (y == 1) else tws (att a) x m) = tws (att a) := by
          funext x m
          by_cases z : x = i ∧ m = k
          · rw [if_pos z, z.1, z.2, q]
          · rw [if_neg z]
        show (_, _, _, _, _, _, _, _) = att a
        rw [this]
      rw [ht] at hM
      exact hM
    · rw [if_neg q, if_neg (fun z => q (hiff.mp ((nI_eq (by omega) (by omega)).mp z)))]
      exact PM.at rfl hM hEM
  · rw [hR.1.1] at h0
    rw [hR.1.2.1] at h1
    obtain ⟨i, hi, rfl, e⟩ := rg1 hA.np h0
    unfold o_wish
    simp only [e, rg0 hA.nm h1]
    exact PM.at rfl hR EM.rf
theorem a_wish {x m y : Int32} (hA : AO a) : AO (o_wish a x m y).2 := by
  unfold o_wish
  cases ix x (tnp (att a)) with
  | none => exact hA
  | some i =>
    cases ix m (tnm (att a)) with
    | none => exact hA
    | some s => simp only; split <;> exact hA
/-! tell -/
def cnt (p : Nat → Bool) : Nat → Nat
  | 0 => 0
  | n + 1 => cnt p n + (if p n then 1 else 0)
theorem cb_bs (p : Nat → Bool) (n : Nat) : ∀ k, k ≤ n → cb (bs p n) k = cnt p k
  | 0, _ => rfl
  | k + 1, h => by
    rw [cb, cnt, cb_bs p n k (by omega), bs_bit]
    have : k < n := by omega
    simp [this]
theorem cnt_le (p : Nat → Bool) : ∀ n, cnt p n ≤ n
  | 0 => Nat.le_refl _
  | n + 1 => by
    have := cnt_le p n
    rw [cnt]
    split <;> omega
def o_tell (a : Ab) (x : Int32) : Int32 × Ab := match ix x (tnp (att a)) with
  | none => (-1, a)
  | some i =>
    if tkd (att a) i = 0 then (nI (cnt (tws (att a) i) (tnm (att a))), setTr a (31 * atr a + 1))
    else if tkd (att a) i = 1 then (nI (cnt (tws (att a) i) (tnm (att a)) + 100), setTr a (31 * (31 * atr a + 2) + 1))
    else (nI (2 * cnt (tws (att a) i) (tnm (att a)) + 100), setTr a (31 * (31 * (31 * (31 * atr a + 3) + 2) + 1) + 1))
theorem honest_loop {κ : KT} {i : Nat} {post : Option Value → St → Prop} (hd : 1 ≤ d) (hT : TC (att a) σ) (hO : TO (att a)) (hi : i < tnp (att a)) (hp : post (some (.int (nI (cnt (tws (att a) i) (tnm (att a)))))) σ) (K : Cm ω κ l yX8_tellAsHonest cX8_tellAsHonest 4 d (some .int) post) : ∀ j m, m + j = tnm (att a) → V ω κ 9 [(0, .ref (ω.2.2.1 0)), (1, .int (nI i)), (2, .int (nI (cnt (tws (att a) i) m))), (3, .int (nI m))] [] σ
  | 0, m, h => by
    obtain rfl : m = tnm (att a) := by omega
    have hnm := hO.2.1
    have hle : σ.1 641 ≤ nI (tnm (att a)) := by rw [hT.2.1]; exact nI_le (Nat.le_refl _) (by omega)
    exact R_X8_tellAsHonest_9 K hd (fun _ => hp) (fun h => absurd hle h) (fun h => absurd hle h) (fun h => absurd hle h)
  | j + 1, m, h => by
    have hnm := hO.2.1
    have ih := honest_loop hd hT hO hi hp K j (m + 1) (by omega)
    have hge : ¬ σ.1 641 ≤ nI m := by
      rw [hT.2.1]
      exact fun z => absurd ((nI_leI (by omega) (by omega)).mp z) (by omega)
    refine R_X8_tellAsHonest_9 K hd (fun h2 => absurd h2 hge) (fun _ => vp_in_nI (by omega) (by omega)) (fun _ hb => ?_) (fun _ hb => ?_)
    · rw [wy_bit hT hO hi (by omega)] at hb
      have e : tws (att a) i m = false := by
        cases q : tws (att a) i m
        · rfl
        · rw [q] at hb; exact absurd hb (by decide)
      rw [cnt, e] at ih
      rw [nI_1]
      exact ih
    · rw [wy_bit hT hO hi (by omega)] at hb
      have e : tws (att a) i m = true := by
        cases q : tws (att a) i m
        · rw [q] at hb; exact absurd rfl hb
        · rfl
      rw [cnt, e, if_pos rfl] at ih
      rw [nI_1, nI_1]
      exact ih
theorem c_honest {i : Nat} (hWf : Wf ω) (hd : 1 ≤ d) (hA : AO a) (hR : RC a σ) (hi : i < tnp (att a)) : Sp ω l yX8_tellAsHonest cX8_tellAsHonest 4 (some .int) d [.ref (ω.2.2.1 0), .int (nI i)] σ (PC (nI (cnt (tws (att a) i) (tnm (att a)))) (setTr a (31 * atr a + 1)) σ) := by
  refine Sp.of (by decide) (Nat.le_of_ble_eq_true rfl) hWf (fun κ K => R_X8_tellAsHonest_0 K hd ?_)
  rw [hR.2.1]
  have h2 := hR.tr (31 * atr a + 1)
  exact honest_loop hd h2.1 hA.1 hi ⟨rfl, h2, EC.rf.s (by decide) _⟩ K (tnm (att a)) 0 (Nat.zero_add _)
theorem c_follower {i : Nat} (hWf : Wf ω) (hd : 2 ≤ d) (hA : AO a) (hR : RC a σ) (hi : i < tnp (att a)) : Sp ω l yX8_tellAsFollower cX8_tellAsFollower 2 (some .int) d [.ref (ω.2.2.1 0), .int (nI i)] σ (PC (nI (cnt (tws (att a) i) (tnm (att a)) + 100)) (setTr a (31 * (31 * atr a + 2) + 1)) σ) := by
  refine Sp.of (by decide) (Nat.le_of_ble_eq_true rfl) hWf (fun κ K => R_X8_tellAsFollower_0 K (by omega) ?_)
  rw [hR.2.1]
  refine C_X8_tellAsFollower_7 K (by omega) (c_honest (a := setTr a (31 * atr a + 2)) hWf (by omega) hA (hR.tr _) hi) (fun v σ' h => ?_)
  obtain ⟨rfl, h1, h2⟩ := h
  exact R_X8_tellAsFollower_10 K (PC.at (by rw [show (100 : Int32) = nI 100 from rfl, nI_add]) h1 ((EC.rf.s (by decide) _).tr h2))
theorem c_contrary {i : Nat} (hWf : Wf ω) (hd : 3 ≤ d) (hA : AO a) (hR : RC a σ) (hi : i < tnp (att a)) : Sp ω l yX8_tellAsContrary cX8_tellAsContrary 3 (some .int) d [.ref (ω.2.2.1 0), .int (nI i)] σ (PC (nI (2 * cnt (tws (att a) i) (tnm (att a)) + 100)) (setTr a (31 * (31 * (31 * (31 * atr a + 3) + 2) + 1) + 1)) σ) := by
  refine Sp.of (by decide) (Nat.le_of_ble_eq_true rfl) hWf (fun κ K => R_X8_tellAsContrary_0 K (by omega) ?_)
  rw [hR.2.1]
  refine C_X8_tellAsContrary_7 K (by omega) (c_follower (a := setTr a (31 * atr a + 3)) hWf (by omega) hA (hR.tr _) hi) (fun v σ' h => ?_)
  obtain ⟨rfl, h1, h2⟩ := h
  refine R_X8_tellAsContrary_10 K ?_
  refine C_X8_tellAsContrary_14 K (by omega) (c_honest (a := setTr a (31 * (31 * (31 * atr a + 3) + 2) + 1)) hWf (by omega) hA h1 hi) (fun v σ2 h => ?_)
  obtain ⟨rfl, h3, h4⟩ := h
  refine R_X8_tellAsContrary_17 K (PC.at ?_ h3 (((EC.rf.s (by decide) _).tr h2).tr h4))
  show nI (cnt (tws (att a) i) (tnm (att a)) + 100) + nI (cnt (tws (att a) i) (tnm (att a))) = _
  rw [nI_add]
  congr 1
  omega
theorem c_tell {x : Int32} (hWf : Wf ω) (hd : 4 ≤ d) (hA : AO a) (hR : RC a σ) : Sp ω l yX8_tell cX8_tell 2 (some .int) d [.ref (ω.2.2.1 0), .int x] σ (PC (o_tell a x).1 (o_tell a x).2 σ) := by
  have hnp := hA.1.1
  refine Sp.of (by decide) (Nat.le_of_ble_eq_true rfl) hWf (fun κ K => R_X8_tell_0 K (by omega) (fun h0 => ?_) (fun h0 h1 => ?_) (fun h0 h1 h2 => ?_) (fun h0 h1 h2 => ?_) (fun h0 => ?_))
  · rw [hR.1.1] at h0
    obtain ⟨i, hi, rfl, -⟩ := rg1 hA.np h0
    exact vp_in_nI (by omega) (by omega)
  · rw [hR.1.1] at h0
    obtain ⟨i, hi, rfl, e⟩ := rg1 hA.np h0
    have hk := hA.1.2.2.2.2.2.1 i
    rw [nI_clamp (by omega), hR.1.2.2.2.2.2.2.2.1 i hi] at h1
    have h1 : tkd (att a) i = 0 := (nI_eq (b := 0) (by omega) (by omega)).mp h1
    have ho : o_tell a (nI i) = (nI (cnt (tws (att a) i) (tnm (att a))), setTr a (31 * atr a + 1)) := by
      unfold o_tell; simp only [e, if_pos h1]
    rw [ho] at K
    refine C_X8_tell_50 K (by omega) (c_honest hWf (by omega) hA hR hi) (fun v σ' h => ?_)
    obtain ⟨rfl, h3, h4⟩ := h
    exact R_X8_tell_53 K ⟨rfl, h3, h4⟩
  · rw [hR.1.1] at h0
    obtain ⟨i, hi, rfl, e⟩ := rg1 hA.np h0
    have hk := hA.1.2.2.2.2.2.1 i
    rw [nI_clamp (by omega), hR.1.2.2.2.2.2.2.2.1 i hi] at h1 h2
    have h1 : ¬ tkd (att a) i = 0 := fun z => h1 (by rw [z]; rfl)
    have h2 : tkd (att a) i = 1 := (nI_eq (b := 1) (by omega) (by omega)).mp h2
    have ho : o_tell a (nI i) = (nI (cnt (tws (att a) i) (tnm (att a)) + 100), setTr a (31 * (31 * atr a + 2) + 1)) := by
      unfold o_tell; simp only [e, if_neg h1, if_pos h2]
    rw [ho] at K
    refine C_X8_tell_56 K (by omega) (c_follower hWf (by omega) hA hR hi) (fun v σ' h => ?_)
    obtain ⟨rfl, h3, h4⟩ := h
    exact R_X8_tell_59 K ⟨rfl, h3, h4⟩
  · rw [hR.1.1] at h0
    obtain ⟨i, hi, rfl, e⟩ := rg1 hA.np h0
    have hk := hA.1.2.2.2.2.2.1 i
    rw [nI_clamp (by omega), hR.1.2.2.2.2.2.2.2.1 i hi] at h1 h2
    have h1 : ¬ tkd (att a) i = 0 := fun z => h1 (by rw [z]; rfl)
    have h2 : ¬ tkd (att a) i = 1 := fun z => h2 (by rw [z]; rfl)
    have ho : o_tell a (nI i) = (nI (2 * cnt (tws (att a) i) (tnm (att a)) + 100), setTr a (31 * (31 * (31 * (31 * atr a + 3) + 2) + 1) + 1)) := by
      unfold o_tell; simp only [e, if_neg h1, if_neg h2]
    rw [ho] at K
    refine C_X8_tell_62 K (by omega) (c_contrary hWf (by omega) hA hR hi) (fun v σ' h => ?_)
    obtain ⟨rfl, h3, h4⟩ := h
    exact R_X8_tell_65 K ⟨rfl, h3, h4⟩
  · rw [hR.1.1] at h0
    unfold o_tell
    simp only [rg0 hA.np h0]
    exact PC.at rfl hR EC.rf
theorem d_tell {x : Int32} (hWf : Wf ω) (hd : 1 ≤ d) (hA : AO a) (hR : RM a σ) : Sp ω l yX9_tell cX9_tell 3 (some .int) d [.ref (ω.2.2.1 35), .int x] σ (PM (o_tell a x).1 (o_tell a x).2 σ) := by
  have hnp := hA.1.1
  have hnm := hA.1.2.1
  have hbits : ∀ i, i < tnp (att a) → F_bits (σ.2.1 40 (nI i).toNatClampNeg) 20 = nI (cnt (tws (att a) i) (tnm (att a))) := by
    intro i hi
    have hl := bs_lt (tws (att a) i) (tnm (att a))
    have h6 : 2 ^ tnm (att a) ≤ 2 ^ 6 := Nat.pow_le_pow_right (by omega) hnm
    rw [nI_clamp (by omega), hR.1.2.2.2.2.2.2.1 i hi, F_bits_n (by omega) 20 (by omega)]
    have := cb_top hl (20 - tnm (att a))
    rw [show tnm (att a) + (20 - tnm (att a)) = 20 by omega] at this
    rw [this, cb_bs _ _ _ (Nat.le_refl _)]
  refine Sp.of (by decide) (Nat.le_of_ble_eq_true rfl) hWf (fun κ K => R_X9_tell_0 K hd (fun h0 => ?_) (fun h0 => ?_) (fun h0 h1 => ?_) (fun h0 h1 h2 => ?_) (fun h0 h1 h2 => ?_) (fun h0 => ?_))
  · rw [hR.1.1] at h0
    obtain ⟨i, hi, rfl, -⟩ := rg1 hA.np h0
    exact vp_in_nI (by omega) (by omega)
  · rw [hR.1.1] at h0
    obtain ⟨i, hi, rfl, -⟩ := rg1 hA.np h0
    exact vp_in_nI (by omega) (by omega)
  · rw [hR.1.1] at h0
    obtain ⟨i, hi, rfl, e⟩ := rg1 hA.np h0
    have hk := hA.1.2.2.2.2.2.1 i
    rw [nI_clamp (by omega), hR.1.2.2.2.2.2.1 i hi] at h1
    have h1 : tkd (att a) i = 1 := (nI_eq (b := 1) (by omega) (by omega)).mp h1
    unfold o_tell
    simp only [e, if_neg (show ¬ tkd (att a) i = 0 by omega), if_pos h1]
    rw [hbits i hi, hR.2.1, pS_over]
    exact PM.at (by rw [show (100 : Int32) = nI 100 from rfl, nI_add]) (hR.tr _) (EM.rf.s (by decide) _)
  · rw [hR.1.1] at h0
    obtain ⟨i, hi, rfl, e⟩ := rg1 hA.np h0
    have hk := hA.1.2.2.2.2.2.1 i
    rw [nI_clamp (by omega), hR.1.2.2.2.2.2.1 i hi] at h2
    have h2 : tkd (att a) i = 2 := (nI_eq (b := 2) (by omega) (by omega)).mp h2
    unfold o_tell
    simp only [e, if_neg (show ¬ tkd (att a) i = 0 by omega), if_neg (show ¬ tkd (att a) i = 1 by omega)]
    rw [hbits i hi, hR.2.1, pS_over, pS_over, pS_over]
    exact PM.at (by rw [show (100 : Int32) = nI 100 from rfl, show (2 : Int32) = nI 2 from rfl, pk_mul, nI_add]) (hR.tr _) (EM.rf.s (by decide) _)
  · rw [hR.1.1] at h0
    obtain ⟨i, hi, rfl, e⟩ := rg1 hA.np h0
    have hk := hA.1.2.2.2.2.2.1 i
    rw [nI_clamp (by omega), hR.1.2.2.2.2.2.1 i hi] at h1 h2
    have h1 : ¬ tkd (att a) i = 1 := fun z => h1 (by rw [z]; rfl)
    have h2 : ¬ tkd (att a) i = 2 := fun z => h2 (by rw [z]; rfl)
    unfold o_tell
    simp only [e, if_pos (show tkd (att a) i = 0 by omega)]
    rw [hbits i hi, hR.2.1]
    exact PM.at rfl (hR.tr _) (EM.rf.s (by decide) _)
  · rw [hR.1.1] at h0
    unfold o_tell
    simp only [rg0 hA.np h0]
    exact PM.at rfl hR EM.rf
theorem a_tell {x : Int32} (hA : AO a) : AO (o_tell a x).2 := by
  unfold o_tell
  cases ix x (tnp (att a)) with
  | none => exact hA
  | some i => simp only; split; exact hA; split <;> exact hA
end SMALL3
