/-! ===== what a vote is, as numbers: who says yes, what is won, who sits then ===== -/
theorem bs_self {s : Nat} : ∀ {n : Nat}, s < 2 ^ n → bs s.testBit n = s := by
  intro n h
  apply Nat.eq_of_testBit_eq
  intro i
  rw [bs_bit]
  by_cases hi : i < n
  · simp [hi]
  · have e : s.testBit i = false := Nat.testBit_lt_two_pow (Nat.lt_of_lt_of_le h (Nat.pow_le_pow_right (by omega) (by omega)))
    simp [e]
theorem bs_add {p q : Nat → Bool} : ∀ {n : Nat}, (∀ i, i < n → ¬ (p i = true ∧ q i = true)) → bs p n + bs q n = bs (fun i => p i || q i) n
  | 0, _ => rfl
  | n + 1, h => by
    have ih := bs_add (p := p) (q := q) (n := n) (fun i hi => h i (by omega))
    have hn := h n (by omega)
    rw [bs, bs, bs, ← ih]
    cases hp : p n <;> cases hq : q n <;> simp_all <;> omega
/-- what is in s and not in y, y a part of s -/
theorem dif {s y n : Nat} (hs : s < 2 ^ n) (h : ∀ i, y.testBit i = true → s.testBit i = true) : y ≤ s ∧ s - y = bs (fun i => s.testBit i && !y.testBit i) n := by
  have hy : y < 2 ^ n := by
    refine Nat.lt_pow_two_of_testBit _ (fun i hi => ?_)
    cases e : y.testBit i
    · rfl
    · have := h i e
      rw [Nat.testBit_lt_two_pow (Nat.lt_of_lt_of_le hs (Nat.pow_le_pow_right (by omega) hi))] at this
      cases this
  have e : y + bs (fun i => s.testBit i && !y.testBit i) n = s := by
    have h1 := bs_add (p := y.testBit) (q := fun i => s.testBit i && !y.testBit i) (n := n) (fun i _ hh => by
      obtain ⟨a, b⟩ := hh
      simp [a] at b)
    rw [bs_self hy] at h1
    rw [h1]
    have h2 : bs (fun i => y.testBit i || (s.testBit i && !y.testBit i)) n = bs s.testBit n := bs_cong (fun i _ => by
      cases a : y.testBit i
      · simp
      · simp [h i a])
    rw [h2, bs_self hs]
  omega
theorem nI_tb (a : Nat) (i : Nat) : (nI a).toBitVec.getLsbD i = (decide (i < 32) && a.testBit i) := by
  show (BitVec.ofNat 32 a).getLsbD i = _
  rw [BitVec.getLsbD_ofNat]
theorem nI_ext {x : Int32} {b : Nat} (h : ∀ i, i < 32 → x.toBitVec.getLsbD i = b.testBit i) : x = nI b := by
  apply Int32.toBitVec_inj.1
  apply BitVec.eq_of_getLsbD_eq
  intro i hi
  rw [h i hi, nI_tb]
  simp [hi]
theorem nI_andnot {a b n : Nat} (ha : a < 2 ^ n) : nI a &&& (nI b ^^^ (-1)) = nI (bs (fun i => a.testBit i && !b.testBit i) n) := by
  apply nI_ext
  intro i hi
  have e : (-1 : Int32).toBitVec = BitVec.allOnes 32 := by decide
  rw [Int32.toBitVec_and, Int32.toBitVec_xor, BitVec.getLsbD_and, BitVec.getLsbD_xor, e, nI_tb, nI_tb, BitVec.getLsbD_allOnes, bs_bit]
  by_cases hn : i < n
  · simp [hi, hn]
  · have e2 : a.testBit i = false := Nat.testBit_lt_two_pow (Nat.lt_of_lt_of_le ha (Nat.pow_le_pow_right (by omega) (by omega)))
    simp [e2]
theorem all_bit {n i : Nat} : (2 ^ n - 1).testBit i = decide (i < n) := by
  rw [Nat.testBit_two_pow_sub_one]
def sayS (kd : Nat → Nat) (w fr : Nat → Bool) (x a n : Nat) : Bool := if fr x || kd x == 0 || a == n then w x else if kd x == 1 then decide (n < a) else decide (a < n)
def pollS (kd : Nat → Nat) (w fr : Nat → Bool) (set : Nat) : Nat → Nat × Nat × Nat
  | 0 => (0, 0, 0)
  | x + 1 => if set.testBit x then (if sayS kd w fr x (pollS kd w fr set x).2.1 (pollS kd w fr set x).2.2 then ((pollS kd w fr set x).1 + 2 ^ x, (pollS kd w fr set x).2.1 + 1, (pollS kd w fr set x).2.2) else ((pollS kd w fr set x).1, (pollS kd w fr set x).2.1, (pollS kd w fr set x).2.2 + 1)) else pollS kd w fr set x
theorem pollS_ok (kd : Nat → Nat) (w fr : Nat → Bool) (set : Nat) : ∀ x, (pollS kd w fr set x).1 < 2 ^ x ∧ (pollS kd w fr set x).2.1 + (pollS kd w fr set x).2.2 = cb set x ∧ (pollS kd w fr set x).2.1 = cb (pollS kd w fr set x).1 x ∧ ∀ i, (pollS kd w fr set x).1.testBit i = true → set.testBit i = true
  | 0 => ⟨by simp [pollS], rfl, rfl, fun i h => by simp [pollS] at h⟩
  | x + 1 => by
    obtain ⟨h1, h2, h3, h4⟩ := pollS_ok kd w fr set x
    have e0 : (pollS kd w fr set x).1.testBit x = false := Nat.testBit_lt_two_pow h1
    have hc : cb (pollS kd w fr set x).1 (x + 1) = cb (pollS kd w fr set x).1 x := by rw [cb, e0]; rfl
    have hp : 2 ^ (x + 1) = 2 ^ x + 2 ^ x := by rw [Nat.pow_succ]; omega
    rw [pollS]
    by_cases hs : set.testBit x = true
    · rw [if_pos hs]
      by_cases hy : sayS kd w fr x (pollS kd w fr set x).2.1 (pollS kd w fr set x).2.2 = true
      · rw [if_pos hy]
        refine ⟨by show _ + 2 ^ x < _; omega, ?_, ?_, fun i hi => ?_⟩
        · show (pollS kd w fr set x).2.1 + 1 + (pollS kd w fr set x).2.2 = cb set (x + 1)
          rw [cb, if_pos hs]; omega
        · show _ + 1 = cb (_ + 2 ^ x) (x + 1)
          have e1 : (((pollS kd w fr set x).1 + 2 ^ x)).testBit x = true := by rw [tb_add h1]; simp
          rw [cb, e1, if_pos rfl, h3]
          congr 1
          exact cb_cong (fun i hi => by rw [tb_add h1]; simp; omega)
        · have hi' : ((pollS kd w fr set x).1 + 2 ^ x).testBit i = true := hi
          rw [tb_add h1] at hi'
          by_cases e : i = x
          · subst e; exact hs
          · simp [e] at hi'; exact h4 i hi'
      · rw [if_neg hy]
        refine ⟨by show (pollS kd w fr set x).1 < _; omega, ?_, ?_, h4⟩
        · show (pollS kd w fr set x).2.1 + ((pollS kd w fr set x).2.2 + 1) = cb set (x + 1)
          rw [cb, if_pos hs]; omega
        · show (pollS kd w fr set x).2.1 = cb _ (x + 1)
          rw [hc, ← h3]
    · rw [if_neg hs]
      refine ⟨by omega, ?_, ?_, h4⟩
      · rw [cb, if_neg hs]; omega
      · rw [hc, ← h3]
def ocS (a n : Nat) : Int32 := if a = n then -5 else if n < a then 1 else 0
def seatsS (me np a n : Nat) : Nat := if a = n then 0 else min np (if me = 0 then max a n - min a n else if me = 1 then max a n else if me = 2 then min a n else 2 * (max a n - min a n))
theorem seatsS_le (me np a n : Nat) : seatsS me np a n ≤ np := by
  unfold seatsS
  split
  · omega
  · exact Nat.min_le_left _ _
/-- the first ones of a set by number: who, and how many are still wanted -/
def foS (set c : Nat) : Nat → Nat × Nat
  | 0 => (0, c)
  | x + 1 => if set.testBit x = true ∧ 0 < (foS set c x).2 then ((foS set c x).1 + 2 ^ x, (foS set c x).2 - 1) else foS set c x
theorem foS_ok (set c : Nat) : ∀ x, (foS set c x).1 < 2 ^ x ∧ (foS set c x).2 + cb (foS set c x).1 x = c ∧ ∀ i, (foS set c x).1.testBit i = true → set.testBit i = true
  | 0 => ⟨by simp [foS], rfl, fun i h => by simp [foS] at h⟩
  | x + 1 => by
    obtain ⟨h1, h2, h3⟩ := foS_ok set c x
    have e0 : (foS set c x).1.testBit x = false := Nat.testBit_lt_two_pow h1
    have hc : cb (foS set c x).1 (x + 1) = cb (foS set c x).1 x := by rw [cb, e0]; rfl
    have hp : 2 ^ (x + 1) = 2 ^ x + 2 ^ x := by rw [Nat.pow_succ]; omega
    rw [foS]
    by_cases hs : set.testBit x = true ∧ 0 < (foS set c x).2
    · rw [if_pos hs]
      refine ⟨by show _ + 2 ^ x < _; omega, ?_, fun i hi => ?_⟩
      · show (_ - 1) + cb (_ + 2 ^ x) (x + 1) = c
        have e1 : (((foS set c x).1 + 2 ^ x)).testBit x = true := by rw [tb_add h1]; simp
        have e2 : cb ((foS set c x).1 + 2 ^ x) x = cb (foS set c x).1 x := cb_cong (fun i hi => by rw [tb_add h1]; simp; omega)
        rw [cb, e1, if_pos rfl, e2]
        omega
      · have hi' : ((foS set c x).1 + 2 ^ x).testBit i = true := hi
        rw [tb_add h1] at hi'
        by_cases e : i = x
        · subst e; exact hs.1
        · simp [e] at hi'; exact h3 i hi'
    · rw [if_neg hs]
      exact ⟨by omega, by rw [hc]; exact h2, h3⟩
/-- once nobody is wanted, nobody comes -/
theorem foS_stop {set c x : Nat} (h : (foS set c x).2 = 0) : ∀ k, foS set c (x + k) = foS set c x
  | 0 => rfl
  | k + 1 => by
    rw [← Nat.add_assoc, foS, foS_stop h k, if_neg (by omega)]
def wonS (set yes : Nat) (oc : Int32) : Nat := if oc = 1 then yes else set - yes
def winS (np set yes : Nat) (oc : Int32) (seats : Nat) : Nat :=
  (foS (wonS set yes oc) seats np).1 ||| (foS (set - wonS set yes oc) (foS (wonS set yes oc) seats np).2 np).1 ||| (foS (2 ^ np - 1 - set) (foS (set - wonS set yes oc) (foS (wonS set yes oc) seats np).2 np).2 np).1
def rndS (np last : Nat) : Nat → Nat × Nat
  | 0 => (0, last)
  | k + 1 => ((rndS np last k).1 ||| 2 ^ (((rndS np last k).2 + 1) % np), ((rndS np last k).2 + 1) % np)
/-- who sits then (0: the hall is shut), who got the last seat -/
def seatS (np la set yes : Nat) (oc : Int32) (seats last : Nat) : Nat × Nat :=
  if seats = 0 then (0, last) else if la = 0 then (2 ^ seats - 1, last) else if la = 1 then (winS np set yes oc seats, last) else rndS np last seats
/-- a matter: who says yes, what is decided, seats, who sits then, who got the last seat -/
def stepS (np me la : Nat) (kd : Nat → Nat) (w fr : Nat → Bool) (m : Nat × Nat) : Nat × Int32 × Nat × Nat × Nat :=
  if m.1 = 0 then (0, -6, np, 2 ^ np - 1, m.2) else
    ((pollS kd w fr m.1 np).1, ocS (pollS kd w fr m.1 np).2.1 (pollS kd w fr m.1 np).2.2, seatsS me np (pollS kd w fr m.1 np).2.1 (pollS kd w fr m.1 np).2.2,
      seatS np la m.1 (pollS kd w fr m.1 np).1 (ocS (pollS kd w fr m.1 np).2.1 (pollS kd w fr m.1 np).2.2) (seatsS me np (pollS kd w fr m.1 np).2.1 (pollS kd w fr m.1 np).2.2) m.2)
