/-! ===== town: Town.found ===== -/
section TOWN2
variable {ω : WT} {l : Launch} {d : Nat} {a : Ab} {σ : St}
def kdN (v : Int32) : Nat := if v = 99 then 2 else if v = 102 then 1 else 0
theorem kdN_le (v : Int32) : kdN v ≤ 2 := by
  unfold kdN
  split
  · decide
  · split <;> decide
def nkd (g : Nat → Int32) (w x : Nat) : Nat := kdN (g (2 + x * w + 1))
def nws (g : Nat → Int32) (w x m : Nat) : Bool := g (2 + x * w + 2 + m) == 121
/-- the town that a text tells -/
def newT (g : Nat → Int32) (n : Nat) : Tn := ((n - 2) / wS g, wS g - 2, 0, 0, wS g - 2, nkd g (wS g), nws g (wS g), fun m => m)
theorem scS_none {gd : Nat → Bool} {ok : Bool} {n : Nat} : ∀ {k p : Nat}, p + k = n → scS gd ok n k p = none → (∀ r, p ≤ r → r < n → gd r = true) ∧ ok = true
  | 0, p, h, h2 => by
    rw [scS] at h2
    cases ok
    · cases h2
    · exact ⟨fun r h3 h4 => absurd h4 (by omega), rfl⟩
  | k + 1, p, h, h2 => by
    rw [scS] at h2
    cases e : gd p
    · rw [e] at h2; cases h2
    · rw [e, if_pos rfl] at h2
      obtain ⟨h3, h4⟩ := scS_none (p := p + 1) (by omega) h2
      refine ⟨fun r h5 h6 => ?_, h4⟩
      by_cases z : r = p
      · rw [z]; exact e
      · exact h3 r (by omega) h6
theorem scS_le {gd : Nat → Bool} {ok : Bool} {n r : Nat} : ∀ {k p : Nat}, p + k = n → scS gd ok n k p = some r → r ≤ n
  | 0, p, h, h2 => by
    rw [scS] at h2
    cases ok
    · cases h2; exact Nat.le_refl _
    · cases h2
  | k + 1, p, h, h2 => by
    rw [scS] at h2
    cases e : gd p
    · rw [e] at h2; cases h2; omega
    · rw [e, if_pos rfl] at h2
      exact scS_le (p := p + 1) (by omega) h2
theorem ff_le {g : Nat → Int32} {n r : Nat} (h : ffS g n = some r) : r ≤ n + 1 := by
  unfold ffS at h
  split at h
  · cases h; omega
  · split at h
    · cases h; omega
    · have := scS_le (by omega) h
      omega
theorem gd_pos {g : Nat → Int32} {w x o : Nat} (ho : o < w) (h : gdS g w (2 + x * w + o) = true) : x < 8 ∧ goS o (g (2 + x * w + o)) = true := by
  unfold gdS at h
  rw [show 2 + x * w + o - 2 = w * x + o by rw [Nat.mul_comm]; omega, Nat.mul_add_div (by omega), Nat.div_eq_of_lt ho, Nat.mul_add_mod, Nat.mod_eq_of_lt ho, Bool.and_eq_true] at h
  exact ⟨by have := of_decide_eq_true h.1; omega, h.2⟩
theorem ff_none {g : Nat → Int32} {n : Nat} (h : ffS g n = none) : ∃ m np, 1 ≤ m ∧ m ≤ 6 ∧ g 1 - 48 = nI m ∧ wS g = m + 2 ∧ (n - 2) / (m + 2) = np ∧ 2 ≤ np ∧ np ≤ 8 ∧ n = 2 + np * (m + 2) ∧ ∀ r, 2 ≤ r → r < n → gdS g (m + 2) r = true := by
  unfold ffS at h
  by_cases h0 : n < 1 ∨ ¬ g 0 = 109
  · rw [if_pos h0] at h; cases h
  rw [if_neg h0] at h
  by_cases h1 : n < 2 ∨ g 1 < 49 ∨ 54 < g 1
  · rw [if_pos h1] at h; cases h
  rw [if_neg h1] at h
  obtain ⟨m, m1, m2, m3, m4, m5⟩ := dig (fun z => h1 (Or.inr (Or.inl z))) (fun z => h1 (Or.inr (Or.inr z)))
  have hwS : wS g = m + 2 := by unfold wS; rw [m4]; omega
  rw [hwS] at h
  obtain ⟨h2, h3⟩ := scS_none (by omega) h
  unfold enS at h3
  obtain ⟨e1, e2⟩ := of_decide_eq_true h3
  have e3 := Nat.div_add_mod (n - 2) (m + 2)
  have e4 : n = 2 + (n - 2) / (m + 2) * (m + 2) := by rw [Nat.mul_comm]; omega
  refine ⟨m, (n - 2) / (m + 2), m1, m2, m5, hwS, rfl, e1, ?_, e4, h2⟩
  refine Classical.byContradiction fun z => ?_
  have z8 : 8 * (m + 2) < (n - 2) / (m + 2) * (m + 2) := Nat.mul_lt_mul_of_lt_of_le (by omega) (Nat.le_refl _) (by omega)
  have := (gd_pos (g := g) (w := m + 2) (x := 8) (o := 0) (by omega) (h2 _ (by omega) (by omega))).1
  omega
theorem newT_ok {g : Nat → Int32} {n : Nat} (h : ffS g n = none) : TO (newT g n) := by
  obtain ⟨m, np, m1, m2, m3, m4, m5, m6, m7, m8, m9⟩ := ff_none h
  unfold newT
  rw [m4, m5]
  refine ⟨m7, show m + 2 - 2 ≤ 6 by omega, Nat.zero_le _, Nat.zero_le _, show m + 2 - 2 ≤ 6 by omega, fun x => kdN_le _, fun q hq => hq, fun p q hpq _ => Nat.ne_of_lt hpq, Or.inr ⟨m6, show 1 ≤ m + 2 - 2 by omega, show 1 ≤ m + 2 - 2 by omega⟩⟩
theorem kindI {v : Int32} (h : (v == 99 || v == 102 || v == 104) = true) : (if v = 99 then (2 : Int32) else (if v = 102 then 1 else (if v = 104 then 0 else -1))) = nI (kdN v) := by
  unfold kdN
  by_cases h1 : v = 99
  · rw [if_pos h1, if_pos h1]; rfl
  · rw [if_neg h1, if_neg h1]
    by_cases h2 : v = 102
    · rw [if_pos h2, if_pos h2]; rfl
    · rw [if_neg h2, if_neg h2]
      have : v = 104 := by simpa [h1, h2] using h
      rw [if_pos this]; rfl
theorem m_settle {k x : Nat} {P5 P6 : Nat → Bool} (hWf : Wf ω) (h40 : σ.1 640 = nI x) (hx : x < 8) (hk : k ≤ 2) (h5 : σ.1 645 = nI (bs P5 x)) (h6 : σ.1 646 = nI (bs P6 x)) (e5 : P5 x = (k == 2)) (e6 : P6 x = (k != 0)) : Sp ω l yX7_settle cX7_settle 2 none d [.ref (ω.2.2.1 10), .int (nI k)] σ (fun v σ' => v = none ∧ Eqx [645, 646] [11] σ σ' ∧ σ'.2.1 11 = upd (σ.2.1 11) x (nI k) ∧ σ'.1 645 = nI (bs P5 (x + 1)) ∧ σ'.1 646 = nI (bs P6 (x + 1))) := by
  refine Sp.of (by decide) (Nat.le_of_ble_eq_true rfl) hWf (fun κ K => ?_)
  have hcl : (nI x).toNatClampNeg = x := nI_clamp (by omega)
  have k0 : nI k = 0 ↔ k = 0 := nI_eq (b := 0) (by omega) (by decide)
  have k2 : nI k = 2 ↔ k = 2 := nI_eq (b := 2) (by omega) (by decide)
  have b5 := bs_or (p := P5) (r := x)
  have b6 := bs_or (p := P6) (r := x)
  refine R_X7_settle_0 K (by rw [h40]; exact vp_in_nI (by omega) (by omega)) (fun z0_ z2_ => ?_) (fun z0_ z2_ => absurd ((k0.mp z0_).symm.trans (k2.mp z2_)) (by decide)) (fun z0_ z2_ => ?_) (fun z0_ z2_ => ?_)
  · have z := k0.mp z0_
    subst z
    rw [e5, if_neg (by decide), show (0 : Int32) = nI 0 from rfl, fa_or, Nat.or_zero] at b5
    rw [e6, if_neg (by decide), show (0 : Int32) = nI 0 from rfl, fa_or, Nat.or_zero] at b6
    rw [h40, hcl]
    exact ⟨rfl, Eqx.rf.pA (by simp) _ _, rfl, h5.trans b5, h6.trans b6⟩
  · have z0 : ¬ k = 0 := fun z => z0_ (k0.mpr z)
    have z2 : ¬ k = 2 := fun z => z2_ (k2.mpr z)
    rw [e5, if_neg (by simpa using z2), show (0 : Int32) = nI 0 from rfl, fa_or, Nat.or_zero] at b5
    rw [e6, if_pos (by simpa using z0)] at b6
    rw [h40, hcl, h6, sh1 x (by omega), b6]
    exact ⟨rfl, (Eqx.rf.pA (by simp) _ _).pS (by simp) _, rfl, h5.trans b5, rfl⟩
  · have z2 := k2.mp z2_
    subst z2
    rw [e5, if_pos (show ((2 : Nat) == 2) = true from rfl)] at b5
    rw [e6, if_pos (show ((2 : Nat) != 0) = true from rfl)] at b6
    rw [h40, hcl, h6, h5, sh1 x (by omega), b6, b5]
    exact ⟨rfl, ((Eqx.rf.pA (by simp) _ _).pS (by simp) _).pS (by simp) _, rfl, rfl, rfl⟩
/-- x people of a text have been settled -/
def FI (g : Nat → Int32) (m x : Nat) (σ σq : St) : Prop := σq.1 640 = nI x ∧ σq.1 641 = nI m ∧ σq.1 642 = 0 ∧ σq.1 643 = 0 ∧ σq.1 645 = nI (bs (fun y => nkd g (m + 2) y == 2) x) ∧ σq.1 646 = nI (bs (fun y => nkd g (m + 2) y != 0) x) ∧ (∀ y, y < x → σq.2.1 11 y = nI (nkd g (m + 2) y)) ∧ Eqx [640, 641, 642, 643, 645, 646] [11, 12] σ σq
theorem found_wish {κ : KT} {j len i n m x np : Nat} {c : Nat → Int32} (hj : j < 4) (hl : σ.1 (64 * (2 + j) + 1) = nI len) (hlen : len ≤ 80) (hc : ∀ i, i < len → σ.2.1 (6 + j) i = c i) (hn : i + n ≤ len) (hm : m ≤ 6) (hx : x < np) (hnp : np ≤ 8) (hnn : n = 2 + np * (m + 2)) (hd : 1 ≤ d) {post : Option Value → St → Prop} (K : Cm ω κ l yX7_found cX7_found 6 d none post)
    (fin : ∀ σ', FI (fun p => c (i + p)) m (x + 1) σ σ' → (∀ r, r < m → σ'.2.1 12 r = nI (bs (fun y => nws (fun p => c (i + p)) (m + 2) y r) (x + 1))) → V ω κ 26 [(0, .ref (ω.2.2.1 10)), (1, .ref (ω.2.2.1 (2 + j))), (2, .int (nI i)), (3, .int (nI n)), (4, .int (nI (2 + (x + 1) * (m + 2))))] [] σ') :
    ∀ k r σq, r + k = m → σq.1 640 = nI x → FI (fun p => c (i + p)) m (x + 1) σ (pS σq 640 (nI (x + 1))) → (∀ r', r' < m → σq.2.1 12 r' = nI (bs (fun y => nws (fun p => c (i + p)) (m + 2) y r') (if r' < r then x + 1 else x))) → V ω κ 61 [(0, .ref (ω.2.2.1 10)), (1, .ref (ω.2.2.1 (2 + j))), (2, .int (nI i)), (3, .int (nI n)), (4, .int (nI (2 + x * (m + 2)))), (5, .int (nI r))] [] σq
  | 0, r, σq, h, h40, hF, h12 => by
    obtain rfl : r = m := by omega
    have h41 : σq.1 641 = nI r := hF.2.1
    have hle : σq.1 641 ≤ nI r := by rw [h41]; exact nI_le (Nat.le_refl _) (by omega)
    refine R_X7_found_61 hj K hd (fun _ => ?_) (fun z_ => absurd hle z_) (fun z_ => absurd hle z_) (fun z_ => absurd hle z_) (fun z_ => absurd hle z_) (fun z_ => absurd hle z_)
    have e : nI (2 + x * (r + 2)) + (nI r + 2) = nI (2 + (x + 1) * (r + 2)) := by
      rw [show (2 : Int32) = nI 2 from rfl, nI_add, nI_add]
      congr 1
      rw [Nat.add_mul]
      omega
    rw [h41, h40, e, nI_1]
    refine fin _ hF (fun r' hr => ?_)
    have := h12 r' hr
    rw [if_pos hr] at this
    exact this
  | k + 1, r, σq, h, h40, hF, h12 => by
    have h41 : σq.1 641 = nI m := hF.2.1
    have hge : ¬ σq.1 641 ≤ nI r := by
      rw [h41]
      exact fun z => absurd ((nI_leI (by omega) (by omega)).mp z) (by omega)
    have hxw : x * (m + 2) + (m + 2) ≤ np * (m + 2) := by
      have := Nat.mul_le_mul_right (m + 2) (show x + 1 ≤ np by omega)
      rw [Nat.add_mul, Nat.one_mul] at this
      exact this
    have e : nI i + nI (2 + x * (m + 2)) + 2 + nI r = nI (i + (2 + x * (m + 2) + 2 + r)) := by
      rw [show (2 : Int32) = nI 2 from rfl, nI_add, nI_add, nI_add]
      congr 1
      omega
    have kx : 64 * (2 + j) + 1 ∉ [640, 641, 642, 643, 645, 646] := by simp; omega
    have ax : 6 + j ∉ [11, 12] := by simp; omega
    have hE := hF.2.2.2.2.2.2.2
    have hlq : σq.1 (64 * (2 + j) + 1) = nI len := by
      have := hE.1 _ kx
      have e2 : (pS σq 640 (nI (x + 1))).1 (64 * (2 + j) + 1) = σq.1 (64 * (2 + j) + 1) := if_neg (by omega)
      rw [e2] at this
      rw [this]; exact hl
    have hcq : ∀ i, i < len → σq.2.1 (6 + j) i = c i := fun i hi => by
      have := hE.2.1 _ ax
      have this : σq.2.1 (6 + j) = σ.2.1 (6 + j) := this
      rw [this]; exact hc i hi
    have ev := at_c hlq hlen hcq (show i + (2 + x * (m + 2) + 2 + r) < len by omega)
    rw [← e] at ev
    have hin : vp_in (nI r) 6 := vp_in_nI (by omega) (by omega)
    refine R_X7_found_61 hj K hd (fun z_ => absurd z_ hge) (fun _ _ _ => by rw [e]; exact vp_in_nI (by omega) (by omega)) (fun _ z_ => ?_) (fun _ _ => hin) (fun _ _ => hin) (fun _ z_ => ?_)
    · rw [ev] at z_
      rw [nI_1]
      refine found_wish hj hl hlen hc hn hm hx hnp hnn hd K fin k (r + 1) σq (by omega) h40 hF (fun r' hr => ?_)
      rw [h12 r' hr]
      by_cases y : r' = r
      · subst y
        rw [if_neg (by omega), if_pos (by omega)]
        have : nws (fun p => c (i + p)) (m + 2) x r' = false := by unfold nws; simpa using z_
        show _ = nI (bs _ x + (if nws (fun p => c (i + p)) (m + 2) x r' = true then 2 ^ x else 0))
        rw [this]
        rfl
      · by_cases y2 : r' < r
        · rw [if_pos y2, if_pos (by omega)]
        · rw [if_neg y2, if_neg (by omega)]
    · rw [ev] at z_
      have hcl : (nI r).toNatClampNeg = r := nI_clamp (by omega)
      have h1 := h12 r (by omega)
      rw [if_neg (by omega)] at h1
      have hws : nws (fun p => c (i + p)) (m + 2) x r = true := by unfold nws; simpa using z_
      have b := bs_or (p := fun y => nws (fun p => c (i + p)) (m + 2) y r) (r := x)
      simp only [hws, if_true] at b
      rw [hcl, nI_1, h1, h40, sh1 x (by omega), b]
      refine found_wish hj hl hlen hc hn hm hx hnp hnn hd K fin k (r + 1) _ (by omega) h40 ?_ (fun r' hr => ?_)
      · obtain ⟨f1, f2, f3, f4, f5, f6, f7, f8⟩ := hF
        exact ⟨f1, f2, f3, f4, f5, f6, f7, f8.pA (by simp) _ _⟩
      · show upd (σq.2.1 12) r _ r' = _
        by_cases y : r' = r
        · subst y
          rw [pk_us, if_pos (by omega)]
        · rw [pk_un y, h12 r' hr]
          by_cases y2 : r' < r
          · rw [if_pos y2, if_pos (by omega)]
          · rw [if_neg y2, if_neg (by omega)]
theorem found_loop {κ : KT} {j len i n m np : Nat} {c : Nat → Int32} (hWf : Wf ω) (hj : j < 4) (hl : σ.1 (64 * (2 + j) + 1) = nI len) (hlen : len ≤ 80) (hc : ∀ i, i < len → σ.2.1 (6 + j) i = c i) (hn : i + n ≤ len) (hm : m ≤ 6) (hnp : np ≤ 8) (hnn : n = 2 + np * (m + 2)) (hgd : ∀ r, 2 ≤ r → r < n → gdS (fun p => c (i + p)) (m + 2) r = true) (hm1 : 1 ≤ m) (hd : 2 ≤ d) {post : Option Value → St → Prop} (K : Cm ω κ l yX7_found cX7_found 6 d none post)
    (fin : ∀ σ', FI (fun p => c (i + p)) m np σ σ' → (∀ r, r < m → σ'.2.1 12 r = nI (bs (fun y => nws (fun p => c (i + p)) (m + 2) y r) np)) → V ω κ 145 [(0, .ref (ω.2.2.1 10)), (5, .int 0)] [] (pS σ' 644 (nI m))) :
    ∀ k x σq, x + k = np → FI (fun p => c (i + p)) m x σ σq → (∀ r, r < m → σq.2.1 12 r = nI (bs (fun y => nws (fun p => c (i + p)) (m + 2) y r) x)) → V ω κ 26 [(0, .ref (ω.2.2.1 10)), (1, .ref (ω.2.2.1 (2 + j))), (2, .int (nI i)), (3, .int (nI n)), (4, .int (nI (2 + x * (m + 2))))] [] σq
  | 0, x, σq, h, hF, h12 => by
    obtain rfl : x = np := by omega
    have hle : nI n ≤ nI (2 + x * (m + 2)) := by rw [← hnn]; exact nI_le (Nat.le_refl _) (by omega)
    refine R_X7_found_26 hj K (by omega) (fun _ => ?_) (fun z_ => absurd hle z_) (fun z_ => absurd hle z_) (fun z_ => absurd hle z_)
    rw [hF.2.1]
    exact fin σq hF h12
  | k + 1, x, σq, h, hF, h12 => by
    have hxw : x * (m + 2) + (m + 2) ≤ np * (m + 2) := by
      have := Nat.mul_le_mul_right (m + 2) (show x + 1 ≤ np by omega)
      rw [Nat.add_mul, Nat.one_mul] at this
      exact this
    have hge : ¬ nI n ≤ nI (2 + x * (m + 2)) := fun z => absurd ((nI_leI (by omega) (by omega)).mp z) (by omega)
    have h8 : ¬ (8 : Int32) ≤ σq.1 640 := by
      rw [hF.1]
      exact fun z => absurd ((nI_leI (a := 8) (by decide) (by omega)).mp z) (by omega)
    have e : nI i + nI (2 + x * (m + 2)) + 1 = nI (i + (2 + x * (m + 2) + 1)) := by
      rw [nI_add, nI_1]
      congr 1
    have kx : 64 * (2 + j) + 1 ∉ [640, 641, 642, 643, 645, 646] := by simp; omega
    have ax : 6 + j ∉ [11, 12] := by simp; omega
    have hE := hF.2.2.2.2.2.2.2
    have hlq : σq.1 (64 * (2 + j) + 1) = nI len := by rw [hE.1 _ kx]; exact hl
    have hcq : ∀ i, i < len → σq.2.1 (6 + j) i = c i := fun i hi => by rw [hE.2.1 _ ax]; exact hc i hi
    have ev := at_c hlq hlen hcq (show i + (2 + x * (m + 2) + 1) < len by omega)
    rw [← e] at ev
    refine R_X7_found_26 hj K (by omega) (fun z_ => absurd z_ hge) (fun _ z_ => absurd z_ h8) (fun _ _ _ _ => by rw [e]; exact vp_in_nI (by omega) (by omega)) (fun _ _ => ?_)
    have hgo := (gd_pos (g := fun p => c (i + p)) (w := m + 2) (x := x) (o := 1) (by omega) (hgd _ (by omega) (by omega))).2
    have hgo : (c (i + (2 + x * (m + 2) + 1)) == 99 || c (i + (2 + x * (m + 2) + 1)) == 102 || c (i + (2 + x * (m + 2) + 1)) == 104) = true := hgo
    rw [ev, kindI hgo]
    obtain ⟨f1, f2, f3, f4, f5, f6, f7, f8⟩ := hF
    refine C_X7_found_55 hj K (by omega) (m_settle (k := kdN (c (i + (2 + x * (m + 2) + 1)))) hWf f1 (by omega) (kdN_le _) f5 f6 rfl rfl) (fun v σ' hp => ?_)
    obtain ⟨rfl, s1, s2, s3, s4⟩ := hp
    refine R_X7_found_58 hj K ?_
    refine found_wish hj hl hlen hc hn hm (show x < np by omega) hnp hnn (by omega) K (fun σ2 hF2 h2 => found_loop hWf hj hl hlen hc hn hm hnp hnn hgd hm1 hd K fin k (x + 1) σ2 (by omega) hF2 h2) m 0 σ' (by omega) ((s1.1 640 (by decide)).trans f1) ⟨rfl, (s1.1 641 (by decide)).trans f2, (s1.1 642 (by decide)).trans f3, (s1.1 643 (by decide)).trans f4, s3, s4, fun y hy => ?_, (f8.tr (s1.mono (by decide) (by decide))).pS (by simp) _⟩ (fun r hr => ?_)
    · show σ'.2.1 11 y = _
      rw [s2]
      by_cases z : y = x
      · subst z; rw [pk_us]; rfl
      · rw [pk_un z]; exact f7 y (by omega)
    · rw [s1.2.1 12 (by decide), if_neg (by omega)]
      exact h12 r hr
theorem found_ag {κ : KT} {m : Nat} (hm : m ≤ 6) (h41 : σ.1 641 = nI m) {post : Option Value → St → Prop} (K : Cm ω κ l yX7_found cX7_found 6 d none post)
    (fin : ∀ σ', Eqx [] [13] σ σ' → (∀ r, r < m → σ'.2.1 13 r = nI r) → post none σ') : ∀ k q σq, q + k = m → Eqx [] [13] σ σq → (∀ r, r < q → σq.2.1 13 r = nI r) → V ω κ 145 [(0, .ref (ω.2.2.1 10)), (5, .int (nI q))] [] σq
  | 0, q, σq, h, hE, h13 => by
    obtain rfl : q = m := by omega
    have hle : σq.1 641 ≤ nI q := by rw [hE.1 641 (by decide), h41]; exact nI_le (Nat.le_refl _) (by omega)
    exact R_X7_found_145 K (fun _ => fin σq hE h13) (fun z_ => absurd hle z_) (fun z_ => absurd hle z_)
  | k + 1, q, σq, h, hE, h13 => by
    have hge : ¬ σq.1 641 ≤ nI q := by
      rw [hE.1 641 (by decide), h41]
      exact fun z => absurd ((nI_leI (by omega) (by omega)).mp z) (by omega)
    refine R_X7_found_145 K (fun z_ => absurd z_ hge) (fun _ => vp_in_nI (by omega) (by omega)) (fun _ => ?_)
    rw [nI_clamp (by omega), nI_1]
    refine found_ag hm h41 K fin k (q + 1) _ (by omega) (hE.pA (by simp) _ _) (fun r hr => ?_)
    show upd (σq.2.1 13) q _ r = _
    by_cases z : r = q
    · subst z; rw [pk_us]
    · rw [pk_un z]; exact h13 r (by omega)
theorem m_found {j len i n : Nat} {c : Nat → Int32} (hWf : Wf ω) (hd : 2 ≤ d) (hj : j < 4) (hl : σ.1 (64 * (2 + j) + 1) = nI len) (hlen : len ≤ 80) (hc : ∀ i, i < len → σ.2.1 (6 + j) i = c i) (hn : i + n ≤ len) (hff : ffS (fun p => c (i + p)) n = none) : Sp ω l yX7_found cX7_found 6 none d [.ref (ω.2.2.1 10), .ref (ω.2.2.1 (2 + j)), .int (nI i), .int (nI n)] σ (fun v σ' => v = none ∧ TC (newT (fun p => c (i + p)) n) σ' ∧ Eqx [640, 641, 642, 643, 644, 645, 646] [11, 12, 13] σ σ') := by
  refine Sp.of (by decide) (Nat.le_of_ble_eq_true rfl) hWf (fun κ K => R_X7_found_0 hj K ?_)
  obtain ⟨m, np, m1, m2, m3, m4, m5, m6, m7, m8, m9⟩ := ff_none hff
  refine C_X7_found_1 hj K (by omega) (m_X7_clear hWf (by omega)) (fun v σ1 hp => ?_)
  obtain ⟨rfl, hσ⟩ := hp
  have hE1 : Eqx [640, 642, 643, 645, 646] [12] σ σ1 := by
    rw [hσ]
    exact (((((Eqx.rf.pS (by simp) _).pS (by simp) _).pS (by simp) _).pS (by simp) _).pS (by simp) _).pF (by simp) _
  have kx : 64 * (2 + j) + 1 ∉ [640, 642, 643, 645, 646] := by simp; omega
  have ax : 6 + j ∉ [12] := by simp; omega
  have e1 : nI i + 1 = nI (i + 1) := nI_1 i
  have hge : 2 ≤ np * (m + 2) := Nat.le_trans (show 2 ≤ 2 * (m + 2) by omega) (Nat.mul_le_mul_right _ m6)
  have ev := at_c (σ := σ1) (c := c) (by rw [hE1.1 _ kx]; exact hl) hlen (fun i hi => by rw [hE1.2.1 _ ax]; exact hc i hi) (show i + 1 < len by omega)
  rw [← e1] at ev
  refine R_X7_found_4 hj K (by omega) (fun _ _ => by rw [e1]; exact vp_in_nI (by omega) (by omega)) ?_
  have m3' : c (i + 1) - 48 = nI m := m3
  have n6 : ¬ (6 : Int32) < nI m := fun z => absurd ((nI_ltI (a := 6) (by decide) (by omega)).mp z) (by omega)
  rw [ev, m3', if_neg n6]
  have hE2 : Eqx [640, 641, 642, 643, 645, 646] [11, 12] σ (pS σ1 641 (nI m)) := (hE1.mono (by simp) (by simp)).pS (by simp) _
  have h0 : σ1.1 640 = 0 ∧ σ1.1 642 = 0 ∧ σ1.1 643 = 0 ∧ σ1.1 645 = 0 ∧ σ1.1 646 = 0 ∧ ∀ r, r < 6 → σ1.2.1 12 r = 0 := by
    rw [hσ]
    exact ⟨rfl, rfl, rfl, rfl, rfl, fun r hr => if_pos hr⟩
  obtain ⟨z0, z2, z3, z5, z6, z12⟩ := h0
  have := found_loop (m := m) (np := np) hWf hj hl hlen hc hn m2 m7 m8 m9 m1 hd K (fun σ2 hF h12 => ?_) np 0 (pS σ1 641 (nI m)) (by omega) ⟨z0, rfl, z2, z3, z5, z6, fun y hy => absurd hy (by omega), hE2⟩ (fun r hr => z12 r (by omega))
  · rw [Nat.zero_mul] at this
    exact this
  · obtain ⟨f1, f2, f3, f4, f5, f6, f7, f8⟩ := hF
    refine found_ag (σ := pS σ2 644 (nI m)) m2 f2 K (fun σ3 hE3 h13 => ?_) m 0 _ (by omega) Eqx.rf (fun r hr => absurd hr (by omega))
    refine ⟨rfl, ?_, ((f8.mono (by simp) (by simp)).pS (by simp) _).tr (hE3.mono (by simp) (by simp))⟩
    unfold newT
    rw [m4, m5]
    refine ⟨(hE3.1 640 (by decide)).trans f1, (hE3.1 641 (by decide)).trans f2, (hE3.1 642 (by decide)).trans f3, (hE3.1 643 (by decide)).trans f4, hE3.1 644 (by decide), (hE3.1 645 (by decide)).trans f5, (hE3.1 646 (by decide)).trans f6, fun y hy => (congrFun (hE3.2.1 11 (by decide)) y).trans (f7 y hy), fun r hr => (congrFun (hE3.2.1 12 (by decide)) r).trans (h12 r hr), h13⟩
/-! the public call -/
def o_town (a : Ab) (k sort i n : Int32) : Int32 × Ab := if (o_why a k sort i n).1 = 0 then (match ffS (fun q => shAt (ash a k.toNatClampNeg) (i.toNatClampNeg + q)) n.toNatClampNeg with
    | some p => (-100 - nI p, setFl a 0)
    | none => (nI ((n.toNatClampNeg - 2) / wS (fun q => shAt (ash a k.toNatClampNeg) (i.toNatClampNeg + q))), setT (setFl a 0) (newT (fun q => shAt (ash a k.toNatClampNeg) (i.toNatClampNeg + q)) n.toNatClampNeg))) else o_why a k sort i n
theorem a_town {k sort i n : Int32} (hA : AO a) : AO (o_town a k sort i n).2 := by
  unfold o_town
  split
  · split
    · exact hA
    · exact ⟨newT_ok (by assumption), hA.2⟩
  · exact a_why hA
theorem o_town_at {j s p q so len : Nat} {c : Nat → Int32} (h : (o_why a (nI j) (nI s) (nI p) (nI q)).1 = 0) (hs : ash a j = some (so, len, c)) (hj : j < 4) (hp : p < 2 ^ 31) (hq : q < 2 ^ 31) : o_town a (nI j) (nI s) (nI p) (nI q) = match ffS (fun q => c (p + q)) q with
    | some r => (-100 - nI r, setFl a 0)
    | none => (nI ((q - 2) / wS (fun q => c (p + q))), setT (setFl a 0) (newT (fun q => c (p + q)) q)) := by
  unfold o_town
  rw [if_pos h, nI_clamp (by omega), nI_clamp hp, nI_clamp hq, hs]
  rfl
theorem c_town {k sort i n : Int32} (hWf : Wf ω) (hd : 3 ≤ d) (hA : AO a) (hR : RC a σ) : Sp ω l yX8_town cX8_town 7 (some .int) d [.ref (ω.2.2.1 0), .int k, .int sort, .int i, .int n] σ (PC (o_town a k sort i n).1 (o_town a k sort i n).2 σ) := by
  refine Sp.of (by decide) (Nat.le_of_ble_eq_true rfl) hWf (fun κ K => R_X8_town_0 K ?_)
  refine C_X8_town_6 K (by omega) (c_why hWf (by omega) hA hR) (fun v σ' h => ?_)
  obtain ⟨rfl, hR', hE'⟩ := h
  refine R_X8_town_9 K (fun h0 => ?_) (fun h0 => ?_)
  · obtain ⟨w1, j, so, len, c, p, q, hj, rfl, w2, rfl, rfl, rfl, w4, w5⟩ := why_0 hA h0
    rw [w1] at hR'
    have ho := o_town_at h0 w2 hj (by omega) (by omega)
    rcases shC_row hR' hj hA with ⟨r1, r2⟩ | ⟨s1, n1, c1, r1, r2, r3, r4, r5, r6, r7⟩
    · rw [show ash (setFl a 0) j = ash a j from rfl, w2] at r1
      cases r1
    rw [show ash (setFl a 0) j = ash a j from rfl, w2] at r1
    cases r1
    refine A_X8_town_24 hj K (R_X8_town_25 hj K ?_)
    refine C_X8_town_28 hj K (by omega) (m_firstFault hWf (by omega) hj r4 r3 r6 w4) (go_I ?_)
    cases ef : ffS (fun q => c (p + q)) q with
    | some r =>
      rw [ef] at ho
      rw [ho] at K
      have hr := ff_le ef
      exact R_X8_town_31 K (fun z_ => absurd z_ (nI_pos (by omega))) (fun _ => PC.at rfl hR' hE')
    | none =>
      rw [ef] at ho
      rw [ho] at K
      refine R_X8_town_31 K (fun _ => ?_) (fun z_ => absurd (show (-1 : Int32) < 0 by decide) z_)
      refine A_X8_town_53 hj K (R_X8_town_54 hj K ?_)
      refine C_X8_town_57 hj K (by omega) (m_found hWf (by omega) hj r4 r3 r6 w4 ef) (fun v σ2 hp => ?_)
      obtain ⟨rfl, hT, hE2⟩ := hp
      refine R_X8_town_60 K ?_
      exact PC.at hT.1 (hR'.town hT hE2 (by decide) (by decide)) (hE'.tr (EC.of hE2 (by decide) (by decide)))
  · have ho : o_town a k sort i n = o_why a k sort i n := by
      unfold o_town
      rw [if_neg h0]
    rw [ho]
    exact PC.at rfl hR' hE'
end TOWN2
