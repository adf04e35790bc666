/-! ===== town: what a text is; Town.firstFault ===== -/
section TOWN
variable {ω : WT} {l : Launch} {d : Nat} {a : Ab} {σ : St}
def goS (o : Nat) (v : Int32) : Bool := if o = 0 then v == 59 else if o = 1 then (v == 99 || v == 102 || v == 104) else (v == 121 || v == 110)
def gdS (g : Nat → Int32) (w p : Nat) : Bool := decide ((p - 2) / w < 8) && goS ((p - 2) % w) (g p)
def scS (gd : Nat → Bool) (ok : Bool) (n : Nat) : Nat → Nat → Option Nat
  | 0, _ => if ok then none else some n
  | k + 1, p => if gd p then scS gd ok n k (p + 1) else some p
def wS (g : Nat → Int32) : Nat := (g 1).toNatClampNeg - 48 + 2
def enS (w n : Nat) : Bool := decide (2 ≤ (n - 2) / w ∧ (n - 2) % w = 0)
def ffS (g : Nat → Int32) (n : Nat) : Option Nat := if n < 1 ∨ ¬ g 0 = 109 then some 0 else if n < 2 ∨ g 1 < 49 ∨ 54 < g 1 then some 1 else scS (gdS g (wS g)) (enS (wS g) n) n (n - 2) 2
theorem scS_skip {gd : Nat → Bool} {ok : Bool} {n p : Nat} : ∀ {k q : Nat}, q + k = p → (∀ r, q ≤ r → r < p → gd r = true) → ∀ m, scS gd ok n (k + m) q = scS gd ok n m p
  | 0, q, h, _, m => by
    obtain rfl : q = p := by omega
    rw [Nat.zero_add]
  | k + 1, q, h, h2, m => by
    rw [Nat.succ_add, scS, if_pos (h2 q (by omega) (by omega)), scS_skip (k := k) (q := q + 1) (by omega) (fun r hr hr2 => h2 r (by omega) hr2)]
theorem scS_bad {gd : Nat → Bool} {ok : Bool} {n p : Nat} (h2 : 2 ≤ p) (hp : p < n) (h : ∀ r, 2 ≤ r → r < p → gd r = true) (hb : gd p = false) : scS gd ok n (n - 2) 2 = some p := by
  have := scS_skip (gd := gd) (ok := ok) (n := n) (p := p) (k := p - 2) (q := 2) (by omega) h (n - p)
  rw [show p - 2 + (n - p) = n - 2 by omega] at this
  rw [this, show n - p = (n - p - 1) + 1 by omega, scS, hb]
  rfl
theorem scS_end {gd : Nat → Bool} {ok : Bool} {n : Nat} (h2 : 2 ≤ n) (h : ∀ r, 2 ≤ r → r < n → gd r = true) : scS gd ok n (n - 2) 2 = if ok then none else some n := by
  have := scS_skip (gd := gd) (ok := ok) (n := n) (p := n) (k := n - 2) (q := 2) (by omega) h 0
  rw [Nat.add_zero] at this
  rw [this, scS]
theorem dm {r w : Nat} (hw : 0 < w) : (r % w + 1 = w → (r + 1) / w = r / w + 1 ∧ (r + 1) % w = 0) ∧ (r % w + 1 ≠ w → (r + 1) / w = r / w ∧ (r + 1) % w = r % w + 1) := by
  have h := Nat.div_add_mod r w
  have hl := Nat.mod_lt r hw
  constructor
  · intro e
    have e2 : r + 1 = w * (r / w + 1) := by rw [Nat.mul_add, Nat.mul_one]; omega
    rw [e2]
    exact ⟨Nat.mul_div_cancel_left _ hw, Nat.mul_mod_right _ _⟩
  · intro e
    have e2 : r + 1 = w * (r / w) + (r % w + 1) := by omega
    have hlt : r % w + 1 < w := by omega
    refine ⟨?_, ?_⟩
    · rw [e2, Nat.mul_add_div hw, Nat.div_eq_of_lt hlt, Nat.add_zero]
    · rw [e2, Nat.mul_add_mod, Nat.mod_eq_of_lt hlt]
theorem kind_neg (v : Int32) : ((if v = 99 then (2 : Int32) else (if v = 102 then 1 else (if v = 104 then 0 else -1))) < 0) ↔ ¬ (v == 99 || v == 102 || v == 104) = true := by
  by_cases h1 : v = 99
  · rw [if_pos h1, h1]; decide
  · by_cases h2 : v = 102
    · rw [if_neg h1, if_pos h2, h2]; decide
    · by_cases h3 : v = 104
      · rw [if_neg h1, if_neg h2, if_pos h3, h3]; decide
      · rw [if_neg h1, if_neg h2, if_neg h3]
        simp [h1, h2, h3]
theorem goI {o : Nat} (ho : o < 2 ^ 31) (v : Int32) : (if nI o = 0 then (if v = 59 then (1 : Int32) else 0) else (if nI o = 1 then (if (if v = 99 then (2 : Int32) else (if v = 102 then 1 else (if v = 104 then 0 else -1))) < 0 then (0 : Int32) else 1) else (if v = 121 then 1 else (if v = 110 then 1 else 0)))) = (if goS o v then 1 else 0) := by
  unfold goS
  by_cases h0 : o = 0
  · subst h0
    rw [if_pos (show nI 0 = 0 from rfl), if_pos rfl]
    by_cases h : v = 59
    · rw [if_pos h, h]; rfl
    · rw [if_neg h, if_neg (by simpa using h)]
  · have n0 : ¬ nI o = 0 := fun z => h0 ((nI_eq (b := 0) ho (by decide)).mp z)
    rw [if_neg n0, if_neg h0]
    by_cases h1 : o = 1
    · subst h1
      rw [if_pos (show nI 1 = 1 from rfl), if_pos rfl]
      by_cases h : (v == 99 || v == 102 || v == 104) = true
      · have hk := kind_neg v
        rw [if_neg (fun z => (hk.mp z) h), if_pos h]
      · rw [if_pos ((kind_neg v).mpr h), if_neg h]
    · have n1 : ¬ nI o = 1 := fun z => h1 ((nI_eq (b := 1) ho (by decide)).mp z)
      rw [if_neg n1, if_neg h1]
      by_cases h2 : v = 121
      · rw [if_pos h2, h2]; rfl
      · rw [if_neg h2]
        by_cases h3 : v = 110
        · rw [if_pos h3, h3]; rfl
        · rw [if_neg h3, if_neg (by simp [h2, h3])]
theorem z01 {q : Prop} [Decidable q] : (if q then (0 : Int32) else 1) = 0 ∨ (if q then (0 : Int32) else 1) = 1 := by
  by_cases h : q
  · exact Or.inl (if_pos h)
  · exact Or.inr (if_neg h)
theorem at_c {j len p : Nat} {c : Nat → Int32} (hl : σ.1 (64 * (2 + j) + 1) = nI len) (hlen : len ≤ 80) (hc : ∀ i, i < len → σ.2.1 (6 + j) i = c i) (hp : p < len) : (if nI p < 0 then (0 : Int32) else (if σ.1 (64 * (2 + j) + 1) ≤ nI p then 0 else σ.2.1 (6 + j) (nI p).toNatClampNeg)) = c p := by
  rw [hl, if_neg (nI_pos (by omega)), if_neg (fun z => absurd ((nI_leI (by omega) (by omega)).mp z) (by omega)), nI_clamp (by omega)]
  exact hc _ hp
theorem fault_loop {κ : KT} {j len i n w : Nat} {c : Nat → Int32} (hj : j < 4) (hl : σ.1 (64 * (2 + j) + 1) = nI len) (hlen : len ≤ 80) (hc : ∀ i, i < len → σ.2.1 (6 + j) i = c i) (hn : i + n ≤ len) (hn2 : 2 ≤ n) (hw : 0 < w) (hd : 2 ≤ d) (K : Cm ω κ l yX7_firstFault cX7_firstFault 7 d (some .int) (rI (plI (scS (gdS (fun p => c (i + p)) w) (enS w n) n (n - 2) 2) (-1)) σ)) (hw9 : w < 2 ^ 31) :
    ∀ k p, p + k = n → 2 ≤ p → (∀ r, 2 ≤ r → r < p → gdS (fun p => c (i + p)) w r = true) → (p - 2) / w ≤ 8 → V ω κ 59 [(0, .ref (ω.2.2.1 (2 + j))), (1, .int (nI i)), (2, .int (nI n)), (3, .int (nI w)), (4, .int (nI ((p - 2) / w))), (5, .int (nI ((p - 2) % w))), (6, .int (nI p))] [] σ
  | 0, p, h, h2, hg, h8 => by
    obtain rfl : p = n := by omega
    have hle : nI p ≤ nI p := nI_le (Nat.le_refl _) (by omega)
    have hm := Nat.mod_le (p - 2) w
    refine R_X7_firstFault_59 hj K hd (fun _ => ?_) (fun z_ => absurd hle z_) (fun z_ => absurd hle z_) (fun z_ => absurd hle z_) (fun z_ => absurd hle z_) (fun z_ => absurd hle z_) (fun z_ => absurd hle z_)
    rw [scS_end hn2 hg]
    refine ⟨?_, rfl⟩
    unfold enS
    by_cases a1 : nI ((p - 2) / w) < 2
    · have := (nI_ltI (b := 2) (by omega) (by decide)).mp a1
      rw [if_pos a1, decide_eq_false (by omega)]
      rfl
    · rw [if_neg a1]
      have b1 : ¬ (p - 2) / w < 2 := fun z => a1 ((nI_ltI (b := 2) (by omega) (by decide)).mpr z)
      by_cases a2 : nI ((p - 2) % w) = 0
      · have := (nI_eq (b := 0) (by omega) (by decide)).mp a2
        rw [if_pos a2, decide_eq_true (by omega)]
        rfl
      · have b2 : ¬ (p - 2) % w = 0 := fun z => a2 (by rw [z]; rfl)
        rw [if_neg a2, decide_eq_false (by omega)]
        rfl
  | k + 1, p, h, h2, hg, h8 => by
    have hge : ¬ nI n ≤ nI p := fun z => absurd ((nI_leI (by omega) (by omega)).mp z) (by omega)
    have e : nI i + nI p = nI (i + p) := nI_add _ _
    have hm := Nat.mod_le (p - 2) w
    have ev := at_c hl hlen hc (show i + p < len by omega)
    have hnx : p + 1 - 2 = p - 2 + 1 := by omega
    have hdm := dm (r := p - 2) hw
    have bad : gdS (fun p => c (i + p)) w p = false → rI (plI (scS (gdS (fun p => c (i + p)) w) (enS w n) n (n - 2) 2) (-1)) σ (some (.int (nI p))) σ := fun hb => by
      rw [scS_bad h2 (by omega) hg hb]
      exact ⟨rfl, rfl⟩
    have h8i : nI ((p - 2) / w) = 8 ↔ (p - 2) / w = 8 := nI_eq (b := 8) (by omega) (by decide)
    have go := goI (o := (p - 2) % w) (by omega) (c (i + p))
    have up : ¬ (p - 2) / w = 8 → goS ((p - 2) % w) (c (i + p)) = true → ∀ r, 2 ≤ r → r < p + 1 → gdS (fun p => c (i + p)) w r = true := fun z1 z2 r hr hr2 => by
      by_cases z : r = p
      · subst z
        unfold gdS
        rw [decide_eq_true (show (r - 2) / w < 8 by omega), z2]
        rfl
      · exact hg r hr (by omega)
    have gt : ∀ z_ : ¬ (if goS ((p - 2) % w) (c (i + p)) = true then (1 : Int32) else 0) = 0, goS ((p - 2) % w) (c (i + p)) = true := fun z_ => by
      by_cases y : goS ((p - 2) % w) (c (i + p)) = true
      · exact y
      · rw [if_neg y] at z_
        exact absurd rfl z_
    refine R_X7_firstFault_59 hj K hd (fun z_ => absurd z_ hge) (fun _ z_ => bad ?_) (fun _ _ _ _ => by rw [e]; exact vp_in_nI (by omega) (by omega)) (fun _ _ _ _ => ?_) (fun _ z8_ z_ y_ => ?_) (fun _ z8_ z_ y_ => ?_) (fun _ z8_ z_ => bad ?_)
    · unfold gdS
      rw [decide_eq_false (show ¬ (p - 2) / w < 8 by have := h8i.mp z_; omega)]
      rfl
    · exact z01
    · rw [e, ev, go] at z_
      have z8 : ¬ (p - 2) / w = 8 := fun z => z8_ (h8i.mpr z)
      have y : ¬ (p - 2) % w + 1 = w := fun z => y_ (by rw [nI_1, z])
      obtain ⟨d1, d2⟩ := hdm.2 y
      have ih := fault_loop hj hl hlen hc hn hn2 hw hd K hw9 k (p + 1) (by omega) (by omega) (up z8 (gt z_)) (by rw [hnx, d1]; exact h8)
      rw [hnx, d1, d2] at ih
      rw [nI_1, nI_1]
      exact ih
    · rw [e, ev, go] at z_
      have z8 : ¬ (p - 2) / w = 8 := fun z => z8_ (h8i.mpr z)
      have y : (p - 2) % w + 1 = w := by
        rw [nI_1] at y_
        exact (nI_eq (by omega) hw9).mp y_
      obtain ⟨d1, d2⟩ := hdm.1 y
      have ih := fault_loop hj hl hlen hc hn hn2 hw hd K hw9 k (p + 1) (by omega) (by omega) (up z8 (gt z_)) (by rw [hnx, d1]; omega)
      rw [hnx, d1, d2] at ih
      rw [nI_1, nI_1]
      exact ih
    · rw [e, ev, go] at z_
      unfold gdS
      have : goS ((p - 2) % w) (c (i + p)) = false := by
        cases y : goS ((p - 2) % w) (c (i + p))
        · rfl
        · rw [y, if_pos rfl] at z_
          exact absurd z_ (by decide)
      rw [this, Bool.and_false]
theorem dig {v : Int32} (h1 : ¬ v < 49) (h2 : ¬ 54 < v) : ∃ m, 1 ≤ m ∧ m ≤ 6 ∧ v = nI (48 + m) ∧ v.toNatClampNeg = 48 + m ∧ v - 48 = nI m := by
  have hv : ¬ v < 0 := fun z => h1 (Int32.lt_of_lt_of_le z (show (0 : Int32) ≤ 49 by decide) )
  obtain ⟨q, hq, rfl⟩ := nI_of hv
  have a1 : ¬ q < 49 := fun z => h1 ((nI_ltI (b := 49) hq (by decide)).mpr z)
  have a2 : ¬ 54 < q := fun z => h2 ((nI_ltI (a := 54) (by decide) hq).mpr z)
  refine ⟨q - 48, by omega, by omega, by rw [show 48 + (q - 48) = q by omega], by rw [nI_clamp hq]; omega, ?_⟩
  rw [show (48 : Int32) = nI 48 from rfl, pk_sub (by omega)]
theorem m_firstFault {j len i n : Nat} {c : Nat → Int32} (hWf : Wf ω) (hd : 2 ≤ d) (hj : j < 4) (hl : σ.1 (64 * (2 + j) + 1) = nI len) (hlen : len ≤ 80) (hc : ∀ i, i < len → σ.2.1 (6 + j) i = c i) (hn : i + n ≤ len) : Sp ω l yX7_firstFault cX7_firstFault 7 (some .int) d [.ref (ω.2.2.1 (2 + j)), .int (nI i), .int (nI n)] σ (rI (plI (ffS (fun p => c (i + p)) n) (-1)) σ) := by
  refine Sp.of (by decide) (Nat.le_of_ble_eq_true rfl) hWf (fun κ K => ?_)
  have e1 : nI i + 1 = nI (i + 1) := nI_1 i
  have i1 : nI n < 1 ↔ n < 1 := nI_ltI (b := 1) (by omega) (by decide)
  have i2 : nI n < 2 ↔ n < 2 := nI_ltI (b := 2) (by omega) (by decide)
  by_cases h0 : n < 1 ∨ ¬ c (i + 0) = 109
  · have ho : ffS (fun p => c (i + p)) n = some 0 := by unfold ffS; rw [if_pos h0]
    rw [ho] at K
    have hc0 : ∀ z_ : ¬ nI n < 1, ¬ c i = 109 := fun z_ => h0.resolve_left (fun y_ => z_ (i1.mpr y_))
    have ev : ∀ z_ : ¬ nI n < 1, _ := fun z_ => at_c hl hlen hc (show i < len by have : ¬ n < 1 := fun y_ => z_ (i1.mpr y_); omega)
    exact R_X7_firstFault_0 hj K (by omega) (fun _ => ⟨rfl, rfl⟩) (fun z_ _ _ => vp_in_nI (by have : ¬ n < 1 := fun y_ => z_ (i1.mpr y_); omega) (by omega)) (fun z_ y_ => absurd ((ev z_).symm.trans y_) (hc0 z_)) (fun z_ y_ => absurd ((ev z_).symm.trans y_) (hc0 z_)) (fun z_ y_ => absurd ((ev z_).symm.trans y_) (hc0 z_)) (fun z_ y_ => absurd ((ev z_).symm.trans y_) (hc0 z_)) (fun z_ y_ => absurd ((ev z_).symm.trans y_) (hc0 z_)) (fun _ _ => ⟨rfl, rfl⟩)
  · have n1 : ¬ n < 1 := fun z => h0 (Or.inl z)
    have c0 : c (i + 0) = 109 := Classical.byContradiction fun z => h0 (Or.inr z)
    have z1 : ¬ nI n < 1 := fun z => n1 (i1.mp z)
    have hlt : i < len := by omega
    have ev := at_c hl hlen hc hlt
    have y1 := ev.trans c0
    by_cases h2 : n < 2
    · have ho : ffS (fun p => c (i + p)) n = some 1 := by unfold ffS; rw [if_neg h0, if_pos (Or.inl h2)]
      rw [ho] at K
      have z2 := i2.mpr h2
      exact R_X7_firstFault_0 hj K (by omega) (fun z_ => absurd z_ z1) (fun _ _ _ => vp_in_nI (by omega) (by omega)) (fun _ _ _ => ⟨rfl, rfl⟩) (fun _ _ z_ => absurd z2 z_) (fun _ _ z_ => absurd z2 z_) (fun _ _ z_ => absurd z2 z_) (fun _ _ z_ => absurd z2 z_) (fun _ z_ => absurd y1 z_)
    · have z2 : ¬ nI n < 2 := fun z => h2 (i2.mp z)
      have ev1 := at_c hl hlen hc (show i + 1 < len by omega)
      rw [← e1] at ev1
      have hin1 : vp_in (nI i + 1) 80 := by rw [e1]; exact vp_in_nI (by omega) (by omega)
      by_cases h3 : c (i + 1) < 49 ∨ 54 < c (i + 1)
      · have ho : ffS (fun p => c (i + p)) n = some 1 := by unfold ffS; rw [if_neg h0, if_pos (Or.inr h3)]
        rw [ho] at K
        have hI : (if (if nI i + 1 < 0 then (0 : Int32) else (if σ.1 (64 * (2 + j) + 1) ≤ nI i + 1 then 0 else σ.2.1 (6 + j) (nI i + 1).toNatClampNeg)) < 49 then (0 : Int32) else (if 54 < (if nI i + 1 < 0 then (0 : Int32) else (if σ.1 (64 * (2 + j) + 1) ≤ nI i + 1 then 0 else σ.2.1 (6 + j) (nI i + 1).toNatClampNeg)) then 0 else 1)) = 0 := by
          rw [ev1]
          by_cases y : c (i + 1) < 49
          · rw [if_pos y]
          · rw [if_neg y, if_pos (h3.resolve_left y)]
        exact R_X7_firstFault_0 hj K (by omega) (fun z_ => absurd z_ z1) (fun _ _ _ => vp_in_nI (by omega) (by omega)) (fun _ _ z_ => absurd z_ z2) (fun _ _ _ _ _ => hin1) (fun _ _ _ z_ => absurd hI z_) (fun _ _ _ z_ => absurd hI z_) (fun _ _ _ _ => ⟨rfl, rfl⟩) (fun _ z_ => absurd y1 z_)
      · have ho : ffS (fun p => c (i + p)) n = scS (gdS (fun p => c (i + p)) (wS (fun p => c (i + p)))) (enS (wS (fun p => c (i + p))) n) n (n - 2) 2 := by unfold ffS; rw [if_neg h0, if_neg (fun z => z.elim h2 h3)]
        rw [ho] at K
        obtain ⟨m, m1, m2, m3, m4, m5⟩ := dig (fun z => h3 (Or.inl z)) (fun z => h3 (Or.inr z))
        have hI : ¬ (if (if nI i + 1 < 0 then (0 : Int32) else (if σ.1 (64 * (2 + j) + 1) ≤ nI i + 1 then 0 else σ.2.1 (6 + j) (nI i + 1).toNatClampNeg)) < 49 then (0 : Int32) else (if 54 < (if nI i + 1 < 0 then (0 : Int32) else (if σ.1 (64 * (2 + j) + 1) ≤ nI i + 1 then 0 else σ.2.1 (6 + j) (nI i + 1).toNatClampNeg)) then 0 else 1)) = 0 := by
          rw [ev1, if_neg (fun z => h3 (Or.inl z)), if_neg (fun z => h3 (Or.inr z))]
          decide
        have hwS : wS (fun p => c (i + p)) = m + 2 := by unfold wS; simp only; rw [m4]; omega
        refine R_X7_firstFault_0 hj K (by omega) (fun z_ => absurd z_ z1) (fun _ _ _ => vp_in_nI (by omega) (by omega)) (fun _ _ z_ => absurd z_ z2) (fun _ _ _ _ _ => hin1) (fun _ _ _ _ _ _ => hin1) (fun _ _ _ _ => ?_) (fun _ _ _ z_ => absurd z_ hI) (fun _ z_ => absurd y1 z_)
        rw [hwS] at K
        rw [ev1, m5, show (2 : Int32) = nI 2 from rfl, nI_add]
        have := fault_loop hj hl hlen hc hn (by omega) (show 0 < m + 2 by omega) hd K (by omega) (n - 2) 2 (by omega) (by omega) (fun r hr hr2 => absurd hr2 (by omega)) (by rw [Nat.zero_div]; omega)
        rw [Nat.zero_div, Nat.zero_mod] at this
        exact this
end TOWN
