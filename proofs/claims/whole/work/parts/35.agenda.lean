/-! ===== agenda ===== -/
section AGENDA
variable {ω : WT} {l : Launch} {d : Nat} {a : Ab} {σ : St}
def hadS (f : Nat → Nat) : Nat → Nat
  | 0 => 0
  | q + 1 => hadS f q ||| 2 ^ f q
def twS (f : Nat → Nat) : Nat → Bool
  | 0 => false
  | q + 1 => twS f q || (hadS f q).testBit (f q)
theorem cb_pow : ∀ v, v < 8 → cb (2 ^ v) 8 = 1 := by decide +kernel
theorem hadS_lt {f : Nat → Nat} : ∀ {n : Nat}, (∀ q, q < n → f q < 6) → hadS f n < 2 ^ 6
  | 0, _ => by rw [hadS]; decide
  | n + 1, h => by
    rw [hadS]
    exact Nat.or_lt_two_pow (hadS_lt (fun q hq => h q (by omega))) (Nat.pow_lt_pow_right (by omega) (h n (by omega)))
theorem hadS_cb {f : Nat → Nat} : ∀ {n : Nat}, (∀ q, q < n → f q < 6) → cb (hadS f n) 8 ≤ n ∧ (twS f n = false ↔ cb (hadS f n) 8 = n)
  | 0, _ => by
    have : cb 0 8 = 0 := by decide
    exact ⟨by rw [hadS, this]; omega, by rw [hadS, this]; exact ⟨fun _ => rfl, fun _ => rfl⟩⟩
  | n + 1, h => by
    obtain ⟨h1, h2⟩ := hadS_cb (n := n) (fun q hq => h q (by omega))
    have hf := h n (by omega)
    rw [hadS, twS]
    cases e : (hadS f n).testBit (f n)
    · have := cb_or (a := hadS f n) (b := 2 ^ f n) (n := 8) (fun i _ hh => by
        rw [Nat.testBit_two_pow] at hh
        have := of_decide_eq_true hh.2
        rw [← this, e] at hh
        exact absurd hh.1 (by decide))
      rw [this, cb_pow _ (by omega), Bool.or_false, h2]
      omega
    · have : hadS f n ||| 2 ^ f n = hadS f n := by
        apply Nat.eq_of_testBit_eq
        intro i
        rw [Nat.testBit_or, Nat.testBit_two_pow]
        by_cases z : f n = i
        · rw [← z, e]; rfl
        · rw [decide_eq_false z, Bool.or_false]
      rw [this, Bool.or_true]
      exact ⟨by omega, ⟨fun z => absurd z (by decide), fun z => by omega⟩⟩
theorem hadS_in {f : Nat → Nat} : ∀ {n p : Nat}, p < n → (hadS f n).testBit (f p) = true
  | 0, p, h => absurd h (by omega)
  | n + 1, p, h => by
    rw [hadS, Nat.testBit_or]
    by_cases z : p = n
    · subst z
      rw [Nat.testBit_two_pow, decide_eq_true rfl, Bool.or_true]
    · rw [hadS_in (p := p) (by omega), Bool.true_or]
theorem twS_dist {f : Nat → Nat} : ∀ {n : Nat}, twS f n = false → ∀ p q, p < q → q < n → f p ≠ f q
  | 0, _, p, q, _, h => absurd h (by omega)
  | n + 1, h, p, q, hpq, hq => by
    rw [twS, Bool.or_eq_false_iff] at h
    by_cases z : q = n
    · subst z
      intro e
      have := hadS_in (f := f) hpq
      rw [e, h.2] at this
      cases this
    · exact twS_dist h.1 p q hpq (by omega)
def okS (g : Nat → Int32) (nm : Nat) : Nat → Bool
  | 0 => true
  | n + 1 => okS g nm n && (ix (g n) nm).isSome
theorem okS_up {g : Nat → Int32} {nm n : Nat} (h : okS g nm n = false) : ∀ k, okS g nm (n + k) = false
  | 0 => h
  | k + 1 => by rw [← Nat.add_assoc, okS, okS_up h k]; rfl
theorem okS_at {g : Nat → Int32} {nm : Nat} : ∀ {n q : Nat}, okS g nm n = true → q < n → ∃ v, v < nm ∧ g q = nI v ∧ v < 2 ^ 31 ∧ (g q).toNatClampNeg = v
  | 0, q, _, hq => absurd hq (by omega)
  | n + 1, q, h, hq => by
    rw [okS, Bool.and_eq_true] at h
    by_cases z : q = n
    · subst z
      cases e : ix (g q) nm with
      | none => rw [e] at h; exact absurd h.2 (by decide)
      | some v =>
        obtain ⟨v1, v2, v3⟩ := ix_some e
        exact ⟨v, v1, v2, v3, by rw [v2]; exact nI_clamp v3⟩
    · exact okS_at h.1 (by omega)
/-- a town with another agenda -/
def agT (t : Tn) (f : Nat → Nat) (n : Nat) : Tn := (tnp t, tnm t, tme t, tla t, n, tkd t, tws t, f)
def agS (a : Ab) (g : Nat → Int32) (n : Nat) : Int32 × Ab := if n < 1 ∨ 6 < n then (-2, a) else if okS g (tnm (att a)) n = false then (-1, a) else if twS (fun q => (g q).toNatClampNeg) n then (-2, a) else (nI n, setT a (agT (att a) (fun q => (g q).toNatClampNeg) n))
def o_agenda (a : Ab) (k sort i n : Int32) : Int32 × Ab := if (o_why a k sort i n).1 = 0 then (if tnp (att a) = 0 then (-3, setFl a 0) else agS (setFl a 0) (fun q => shAt (ash a k.toNatClampNeg) (i.toNatClampNeg + q)) n.toNatClampNeg) else o_why a k sort i n
theorem a_agS {g : Nat → Int32} {n : Nat} (hA : AO a) (h2 : 2 ≤ tnp (att a)) : AO (agS a g n).2 := by
  unfold agS
  split
  · exact hA
  · split
    · exact hA
    · split
      · exact hA
      · rename_i z1 z2 z3
        refine ⟨?_, hA.2⟩
        obtain ⟨o1, o2, o3, o4, o5, o6, o7, o8, o9⟩ := hA.1
        refine ⟨o1, o2, o3, o4, show n ≤ 6 by omega, o6, fun q hq => ?_, fun p q hpq hq => twS_dist (f := fun q => (g q).toNatClampNeg) (n := n) (by simpa using z3) p q hpq hq, Or.inr ⟨h2, show 1 ≤ tnm (att a) by omega, show 1 ≤ n by omega⟩⟩
        obtain ⟨v, v1, -, -, v4⟩ := okS_at (n := n) (q := q) (by simpa using z2) hq
        show (g q).toNatClampNeg < tnm (att a)
        rw [v4]
        exact v1
theorem a_agenda {k sort i n : Int32} (hA : AO a) : AO (o_agenda a k sort i n).2 := by
  unfold o_agenda
  split
  · split
    · exact hA
    · rename_i z
      exact a_agS (a := setFl a 0) hA (hA.1.two z)
  · exact a_why hA
/-- the class: Town.takeAgenda -/
theorem take_put {κ : KT} {j n p len : Nat} {c : Nat → Int32} (hj : j < 4) (hn : n ≤ 6) (hl : σ.1 (64 * (2 + j) + 1) = nI len) (hlen : len ≤ 80) (hc : ∀ i, i < len → σ.2.1 (6 + j) i = c i) (hp : p + n ≤ len) (hd : 1 ≤ d) {post : Option Value → St → Prop} (K : Cm ω κ l yX7_takeAgenda cX7_takeAgenda 7 d (some .int) post)
    (fin : ∀ σ', Eqx [] [13] σ σ' → (∀ r, r < n → σ'.2.1 13 r = c (p + r)) → post (some (.int (nI n))) (pS σ' 644 (nI n))) : ∀ k q σq, q + k = n → Eqx [] [13] σ σq → (∀ r, r < q → σq.2.1 13 r = c (p + r)) → V ω κ 77 [(0, .ref (ω.2.2.1 10)), (1, .ref (ω.2.2.1 (2 + j))), (2, .int (nI p)), (3, .int (nI n)), (5, .int (nI q))] [] σq
  | 0, q, σq, h, hE, h13 => by
    obtain rfl : q = n := by omega
    have hle : nI q ≤ nI q := nI_le (Nat.le_refl _) (by omega)
    exact R_X7_takeAgenda_77 hj K hd (fun _ => fin σq hE h13) (fun z_ => absurd hle z_) (fun z_ => absurd hle z_) (fun z_ => absurd hle z_)
  | k + 1, q, σq, h, hE, h13 => by
    have hge : ¬ nI n ≤ nI q := fun z => absurd ((nI_leI (by omega) (by omega)).mp z) (by omega)
    have e : nI p + nI q = nI (p + q) := nI_add _ _
    have kx : 64 * (2 + j) + 1 ∉ ([] : List Nat) := by simp
    have ax : 6 + j ∉ [13] := by simp; omega
    have ev : (if nI p + nI q < 0 then (0 : Int32) else (if σq.1 (64 * (2 + j) + 1) ≤ nI p + nI q then 0 else σq.2.1 (6 + j) (nI p + nI q).toNatClampNeg)) = c (p + q) := by
      rw [e, hE.1 _ kx, hE.2.1 _ ax, hl, if_neg (nI_pos (by omega)), if_neg (fun z => absurd ((nI_leI (by omega) (by omega)).mp z) (by omega)), nI_clamp (by omega)]
      exact hc _ (by omega)
    refine R_X7_takeAgenda_77 hj K hd (fun z_ => absurd z_ hge) (fun _ _ _ => by rw [e]; exact vp_in_nI (by omega) (by omega)) (fun _ => vp_in_nI (by omega) (by omega)) (fun _ => ?_)
    rw [ev, nI_1, nI_clamp (by omega)]
    refine take_put hj hn hl hlen hc hp hd K fin k (q + 1) _ (by omega) (hE.pA (by simp) _ _) (fun r hr => ?_)
    show upd (σq.2.1 13) q _ r = _
    by_cases z : r = q
    · subst z; rw [pk_us]
    · rw [pk_un z]; exact h13 r (by omega)
theorem take_loop {κ : KT} {j n p len nm : Nat} {c : Nat → Int32} (hj : j < 4) (hn1 : 1 ≤ n) (hn : n ≤ 6) (hnm : nm ≤ 6) (h41 : σ.1 641 = nI nm) (hl : σ.1 (64 * (2 + j) + 1) = nI len) (hlen : len ≤ 80) (hc : ∀ i, i < len → σ.2.1 (6 + j) i = c i) (hp : p + n ≤ len) (hd : 1 ≤ d) {post : Option Value → St → Prop} (K : Cm ω κ l yX7_takeAgenda cX7_takeAgenda 7 d (some .int) post)
    (bad : okS (fun q => c (p + q)) nm n = false → post (some (.int (-1))) σ)
    (two : okS (fun q => c (p + q)) nm n = true → twS (fun q => (c (p + q)).toNatClampNeg) n = true → post (some (.int (-2))) σ)
    (fin : okS (fun q => c (p + q)) nm n = true → twS (fun q => (c (p + q)).toNatClampNeg) n = false → ∀ σ', Eqx [] [13] σ σ' → (∀ r, r < n → σ'.2.1 13 r = c (p + r)) → post (some (.int (nI n))) (pS σ' 644 (nI n))) :
    ∀ k q, q + k = n → okS (fun q => c (p + q)) nm q = true → V ω κ 20 [(0, .ref (ω.2.2.1 10)), (1, .ref (ω.2.2.1 (2 + j))), (2, .int (nI p)), (3, .int (nI n)), (4, .int (nI (hadS (fun q => (c (p + q)).toNatClampNeg) q))), (5, .int (nI q))] [] σ
  | 0, q, h, ho => by
    obtain rfl : q = n := by omega
    have hle : nI q ≤ nI q := nI_le (Nat.le_refl _) (by omega)
    have hf : ∀ r, r < q → (c (p + r)).toNatClampNeg < 6 := fun r hr => by
      obtain ⟨v, v1, -, -, v4⟩ := okS_at ho hr
      have v4 : (c (p + r)).toNatClampNeg = v := v4
      omega
    have hlt := hadS_lt (f := fun q => (c (p + q)).toNatClampNeg) hf
    obtain ⟨c1, c2⟩ := hadS_cb (f := fun q => (c (p + q)).toNatClampNeg) hf
    refine R_X7_takeAgenda_20 hj K hd (fun _ z_ => ?_) (fun _ z_ => ?_) (fun z_ => absurd hle z_) (fun z_ => absurd hle z_) (fun z_ => absurd hle z_)
    · rw [F_bc_n _ (by omega)] at z_
      have z := (nI_eq (by omega) (by omega)).mp z_
      exact take_put hj hn hl hlen hc hp hd K (fin ho (c2.mpr z)) q 0 σ (by omega) Eqx.rf (fun r hr => absurd hr (by omega))
    · refine two ho ?_
      cases e : twS (fun q => (c (p + q)).toNatClampNeg) q
      · exact absurd (by rw [F_bc_n _ (by omega), c2.mp e]) z_
      · rfl
  | k + 1, q, h, ho => by
    have hge : ¬ nI n ≤ nI q := fun z => absurd ((nI_leI (by omega) (by omega)).mp z) (by omega)
    have e : nI p + nI q = nI (p + q) := nI_add _ _
    have ev : (if nI p + nI q < 0 then (0 : Int32) else (if σ.1 (64 * (2 + j) + 1) ≤ nI p + nI q then 0 else σ.2.1 (6 + j) (nI p + nI q).toNatClampNeg)) = c (p + q) := by
      rw [e, hl, if_neg (nI_pos (by omega)), if_neg (fun z => absurd ((nI_leI (by omega) (by omega)).mp z) (by omega)), nI_clamp (by omega)]
      exact hc _ (by omega)
    refine R_X7_takeAgenda_20 hj K hd (fun z_ => absurd z_ hge) (fun z_ => absurd z_ hge) (fun _ _ _ => by rw [e]; exact vp_in_nI (by omega) (by omega)) (fun _ z_ => ?_) (fun _ z_ => ?_)
    · rw [ev, h41] at z_
      obtain ⟨v, hv, ve, vi⟩ := rg1 (by omega) z_
      have ih := take_loop hj hn1 hn hnm h41 hl hlen hc hp hd K bad two fin k (q + 1) (by omega) (by rw [okS, ho, vi]; rfl)
      rw [hadS] at ih
      simp only [ve] at ih
      rw [ev, ve, nI_1, sh1 v (by omega), fa_or]
      rw [nI_clamp (by omega)] at ih
      exact ih
    · rw [ev, h41] at z_
      have vi := rg0 (by omega) z_
      have h1 : okS (fun q => c (p + q)) nm (q + 1) = false := by rw [okS, ho, vi]; rfl
      have := okS_up h1 k
      rw [show q + 1 + k = n by omega] at this
      exact bad this
theorem TC.agenda {t : Tn} {σ' : St} {f : Nat → Nat} {n : Nat} (hT : TC t σ) (hE : Eqx [] [13] σ σ') (h : ∀ r, r < n → σ'.2.1 13 r = nI (f r)) : TC (agT t f n) (pS σ' 644 (nI n)) := by
  obtain ⟨h1, h2, h3, h4, h5, h6, h7, h8, h9, h10⟩ := hT
  refine ⟨?_, ?_, ?_, ?_, rfl, ?_, ?_, ?_, ?_, h⟩
  · exact (hE.1 640 (by decide)).trans h1
  · exact (hE.1 641 (by decide)).trans h2
  · exact (hE.1 642 (by decide)).trans h3
  · exact (hE.1 643 (by decide)).trans h4
  · exact (hE.1 645 (by decide)).trans h6
  · exact (hE.1 646 (by decide)).trans h7
  · intro x hx
    exact (congrFun (hE.2.1 11 (by decide)) x).trans (h8 x hx)
  · intro x hx
    exact (congrFun (hE.2.1 12 (by decide)) x).trans (h9 x hx)
theorem TM.agenda {t : Tn} {σ' : St} {f : Nat → Nat} {n : Nat} (hT : TM t σ) (hE : Eqx [] [41] σ σ') (h : ∀ r, r < n → σ'.2.1 41 r = nI (f r)) : TM (agT t f n) (pS σ' 2251 (nI n)) := by
  obtain ⟨h1, h2, h3, h4, h5, h6, h7, h8⟩ := hT
  refine ⟨?_, ?_, ?_, ?_, rfl, ?_, ?_, h⟩
  · exact (hE.1 2245 (by decide)).trans h1
  · exact (hE.1 2246 (by decide)).trans h2
  · exact (hE.1 2249 (by decide)).trans h3
  · exact (hE.1 2250 (by decide)).trans h4
  · intro x hx
    exact (congrFun (hE.2.1 39 (by decide)) x).trans (h6 x hx)
  · intro x hx
    exact (congrFun (hE.2.1 40 (by decide)) x).trans (h7 x hx)
theorem agS_out {g : Nat → Int32} {n : Nat} (h : n < 1 ∨ 6 < n) : agS a g n = (-2, a) := by unfold agS; rw [if_pos h]
theorem agS_bad {g : Nat → Int32} {n : Nat} (h : ¬ (n < 1 ∨ 6 < n)) (h2 : okS g (tnm (att a)) n = false) : agS a g n = (-1, a) := by unfold agS; rw [if_neg h, if_pos h2]
theorem agS_two {g : Nat → Int32} {n : Nat} (h : ¬ (n < 1 ∨ 6 < n)) (h2 : okS g (tnm (att a)) n = true) (h3 : twS (fun q => (g q).toNatClampNeg) n = true) : agS a g n = (-2, a) := by unfold agS; rw [if_neg h, if_neg (by rw [h2]; decide), if_pos h3]
theorem agS_ok {g : Nat → Int32} {n : Nat} (h : ¬ (n < 1 ∨ 6 < n)) (h2 : okS g (tnm (att a)) n = true) (h3 : twS (fun q => (g q).toNatClampNeg) n = false) : agS a g n = (nI n, setT a (agT (att a) (fun q => (g q).toNatClampNeg) n)) := by unfold agS; rw [if_neg h, if_neg (by rw [h2]; decide), if_neg (by rw [h3]; decide)]
theorem m_take {j n p so len : Nat} {c : Nat → Int32} (hWf : Wf ω) (hd : 1 ≤ d) (hA : AO a) (hR : RC a σ) (hj : j < 4) (hs : ash a j = some (so, len, c)) (hp : p + n ≤ len) (hlen : len ≤ 80) : Sp ω l yX7_takeAgenda cX7_takeAgenda 7 (some .int) d [.ref (ω.2.2.1 10), .ref (ω.2.2.1 (2 + j)), .int (nI p), .int (nI n)] σ (PC (agS a (fun q => c (p + q)) n).1 (agS a (fun q => c (p + q)) n).2 σ) := by
  refine Sp.of (by decide) (Nat.le_of_ble_eq_true rfl) hWf (fun κ K => ?_)
  rcases shC_row hR hj hA with ⟨r1, r2⟩ | ⟨s1, n1, c1, r1, r2, r3, r4, r5, r6, r7⟩
  · rw [hs] at r1
    cases r1
  rw [hs] at r1
  cases r1
  by_cases h1 : n < 1 ∨ 6 < n
  · rw [agS_out h1] at K
    refine R_X7_takeAgenda_0 hj K (fun _ => PC.at rfl hR EC.rf) (fun z1_ z2_ => ?_) (fun _ _ => PC.at rfl hR EC.rf)
    exfalso
    rcases h1 with h1 | h1
    · exact z1_ ((nI_ltI (b := 1) (by omega) (by decide)).mpr h1)
    · have := (nI_leI (b := 6) (by omega) (by decide)).mp z2_
      omega
  · have hge : ¬ nI n < 1 := fun z => h1 (Or.inl ((nI_ltI (b := 1) (by omega) (by decide)).mp z))
    have hle : nI n ≤ 6 := (nI_leI (b := 6) (by omega) (by decide)).mpr (by omega)
    refine R_X7_takeAgenda_0 hj K (fun z_ => absurd z_ hge) (fun _ _ => ?_) (fun _ z_ => absurd hle z_)
    refine take_loop (nm := tnm (att a)) hj (by omega) (by omega) hA.1.2.1 hR.1.2.1 r4 r3 r6 hp hd K (fun y_ => ?_) (fun y1_ y2_ => ?_) (fun y1_ y2_ σ' hE h13 => ?_) n 0 (by omega) rfl
    · rw [agS_bad h1 y_]
      exact PC.at rfl hR EC.rf
    · rw [agS_two h1 y1_ y2_]
      exact PC.at rfl hR EC.rf
    · rw [agS_ok h1 y1_ y2_]
      have hE2 : Eqx [644] [13] σ (pS σ' 644 (nI n)) := (hE.mono (by simp) (by simp)).pS (by simp) _
      refine PC.at rfl (hR.town (hR.1.agenda hE (fun r hr => ?_)) hE2 (by decide) (by decide)) (EC.of hE2 (by decide) (by decide))
      obtain ⟨v, -, v2, v3, v4⟩ := okS_at y1_ hr
      rw [h13 r hr]
      show c (p + r) = nI (c (p + r)).toNatClampNeg
      rw [show c (p + r) = nI v from v2, nI_clamp v3]
theorem c_agenda {k sort i n : Int32} (hWf : Wf ω) (hd : 2 ≤ d) (hA : AO a) (hR : RC a σ) : Sp ω l yX8_agenda cX8_agenda 6 (some .int) d [.ref (ω.2.2.1 0), .int k, .int sort, .int i, .int n] σ (PC (o_agenda a k sort i n).1 (o_agenda a k sort i n).2 σ) := by
  refine Sp.of (by decide) (Nat.le_of_ble_eq_true rfl) hWf (fun κ K => R_X8_agenda_0 K ?_)
  have hnp := hA.1.1
  refine C_X8_agenda_6 K (by omega) (c_why hWf (by omega) hA hR) (fun v σ' h => ?_)
  obtain ⟨rfl, hR', hE'⟩ := h
  refine R_X8_agenda_9 K (by omega) (fun h0 h1 => ?_) (fun h0 h1 => ?_) (fun h0 => ?_)
  · obtain ⟨w1, j, so, len, c, p, q, hj, rfl, w2, rfl, rfl, rfl, w4, w5⟩ := why_0 hA h0
    rw [w1] at hR'
    have h1 := tw1 (n := tnp (att a)) (by rw [hR'.1.1] at h1; exact h1)
    refine A_X8_agenda_41 hj K (R_X8_agenda_42 hj K ?_)
    refine C_X8_agenda_45 hj K (by omega) (m_take (a := setFl a 0) hWf (by omega) hA hR' hj w2 w4 w5) (fun v σ2 h => ?_)
    obtain ⟨rfl, hR2, hE2⟩ := h
    have ho : o_agenda a (nI j) (nI so) (nI p) (nI q) = agS (setFl a 0) (fun q => c (p + q)) q := by
      unfold o_agenda
      rw [if_pos h0, if_neg h1, nI_clamp (by omega), nI_clamp (by omega), nI_clamp (by omega), w2]
      rfl
    rw [ho] at K
    exact R_X8_agenda_48 K (PC.at rfl hR2 (hE'.tr hE2))
  · obtain ⟨w1, -⟩ := why_0 hA h0
    rw [w1] at hR'
    have hz : tnp (att a) = 0 := tw0 (by omega) (by rw [hR'.1.1] at h1; exact h1)
    have ho : o_agenda a k sort i n = (-3, setFl a 0) := by
      unfold o_agenda
      rw [if_pos h0, if_pos hz]
    rw [ho]
    exact PC.at rfl hR' hE'
  · have ho : o_agenda a k sort i n = o_why a k sort i n := by
      unfold o_agenda
      rw [if_neg h0]
    rw [ho]
    exact PC.at rfl hR' hE'
/-- the model's agenda -/
theorem agM_put {κ : KT} {b n : Nat} (hn : n ≤ 6) (hb : b + n ≤ 320) {post : Option Value → St → Prop} (K : Cm ω κ l yX9_agenda cX9_agenda 10 d (some .int) post)
    (fin : ∀ σ', Eqx [] [41] σ σ' → (∀ r, r < n → σ'.2.1 41 r = σ.2.1 38 (b + r)) → post (some (.int (nI n))) (pS σ' 2251 (nI n))) : ∀ k q σq, q + k = n → Eqx [] [41] σ σq → (∀ r, r < q → σq.2.1 41 r = σ.2.1 38 (b + r)) → V ω κ 179 [(0, .ref (ω.2.2.1 35)), (4, .int (nI n)), (6, .int (nI b)), (9, .int (nI q))] [] σq
  | 0, q, σq, h, hE, h41 => by
    obtain rfl : q = n := by omega
    have hle : nI q ≤ nI q := nI_le (Nat.le_refl _) (by omega)
    exact R_X9_agenda_179 K (fun _ => fin σq hE h41) (fun z_ => absurd hle z_) (fun z_ => absurd hle z_) (fun z_ => absurd hle z_)
  | k + 1, q, σq, h, hE, h41 => by
    have hge : ¬ nI n ≤ nI q := fun z => absurd ((nI_leI (by omega) (by omega)).mp z) (by omega)
    refine R_X9_agenda_179 K (fun z_ => absurd z_ hge) (fun _ => by rw [nI_add]; exact vp_in_nI (by omega) (by omega)) (fun _ => vp_in_nI (by omega) (by omega)) (fun _ => ?_)
    rw [nI_add, nI_1, nI_clamp (by omega), nI_clamp (by omega), hE.2.1 38 (by decide)]
    refine agM_put hn hb K fin k (q + 1) _ (by omega) (hE.pA (by simp) _ _) (fun r hr => ?_)
    show upd (σq.2.1 41) q _ r = _
    by_cases z : r = q
    · subst z; rw [pk_us]
    · rw [pk_un z]; exact h41 r (by omega)
theorem agM_loop {κ : KT} {b n nm : Nat} {g : Nat → Int32} (hn : n ≤ 6) (hnm : nm ≤ 6) (h46 : σ.1 2246 = nI nm) (hb : b + n ≤ 320) (hg : ∀ q, q < n → σ.2.1 38 (b + q) = g q) (hd : 1 ≤ d) {post : Option Value → St → Prop} (K : Cm ω κ l yX9_agenda cX9_agenda 10 d (some .int) post)
    (bad : okS g nm n = false → post (some (.int (-1))) σ)
    (two : okS g nm n = true → twS (fun q => (g q).toNatClampNeg) n = true → post (some (.int (-2))) σ)
    (fin : okS g nm n = true → twS (fun q => (g q).toNatClampNeg) n = false → ∀ σ', Eqx [] [41] σ σ' → (∀ r, r < n → σ'.2.1 41 r = σ.2.1 38 (b + r)) → post (some (.int (nI n))) (pS σ' 2251 (nI n))) :
    ∀ k q, q + k = n → okS g nm q = true → V ω κ 88 [(0, .ref (ω.2.2.1 35)), (4, .int (nI n)), (6, .int (nI b)), (7, .int (nI (hadS (fun q => (g q).toNatClampNeg) q))), (8, .int (if twS (fun q => (g q).toNatClampNeg) q then 1 else 0)), (9, .int (nI q))] [] σ
  | 0, q, h, ho => by
    obtain rfl : q = n := by omega
    have hle : nI q ≤ nI q := nI_le (Nat.le_refl _) (by omega)
    refine R_X9_agenda_88 K hd (fun _ z_ => ?_) (fun _ z_ => ?_) (fun z_ => absurd hle z_) (fun z_ => absurd hle z_) (fun z_ => absurd hle z_) (fun z_ => absurd hle z_) (fun z_ => absurd hle z_)
    · cases e : twS (fun q => (g q).toNatClampNeg) q
      · exact agM_put hn hb K (fin ho e) q 0 σ (by omega) Eqx.rf (fun r hr => absurd hr (by omega))
      · rw [e, if_pos rfl] at z_
        exact absurd z_ (by decide)
    · cases e : twS (fun q => (g q).toNatClampNeg) q
      · rw [e, if_neg (by decide)] at z_
        exact absurd rfl z_
      · exact two ho e
  | k + 1, q, h, ho => by
    have hge : ¬ nI n ≤ nI q := fun z => absurd ((nI_leI (by omega) (by omega)).mp z) (by omega)
    have hin : vp_in (nI b + nI q) 320 := by rw [nI_add]; exact vp_in_nI (by omega) (by omega)
    have ev : σ.2.1 38 (nI b + nI q).toNatClampNeg = g q := by rw [nI_add, nI_clamp (by omega)]; exact hg q (by omega)
    refine R_X9_agenda_88 K hd (fun z_ => absurd z_ hge) (fun z_ => absurd z_ hge) (fun _ => hin) (fun _ _ _ => hin) (fun _ _ => hin) (fun _ z_ => ?_) (fun _ z_ => ?_)
    · rw [ev, h46] at z_
      obtain ⟨v, hv, ve, vi⟩ := rg1 (by omega) z_
      have hf : ∀ r, r < q → (g r).toNatClampNeg < 6 := fun r hr => by
        obtain ⟨v, v1, -, -, v4⟩ := okS_at ho hr
        have v4 : (g r).toNatClampNeg = v := v4
        omega
      have hlt := hadS_lt (f := fun q => (g q).toNatClampNeg) hf
      have ih := agM_loop hn hnm h46 hb hg hd K bad two fin k (q + 1) (by omega) (by rw [okS, ho, vi]; rfl)
      rw [hadS, twS] at ih
      simp only [ve] at ih
      rw [nI_clamp (by omega)] at ih
      rw [ev, ve, nI_1, sh1 v (by omega), fa_or]
      have e8 : (if (if twS (fun q => (g q).toNatClampNeg) q = true then (1 : Int32) else 0) = 0 then (if (nI (hadS (fun q => (g q).toNatClampNeg) q) >>> (nI v &&& 31)) &&& 1 = 1 then (1 : Int32) else 0) else 1) = (if (twS (fun q => (g q).toNatClampNeg) q || (hadS (fun q => (g q).toNatClampNeg) q).testBit v) = true then 1 else 0) := by
        cases e : twS (fun q => (g q).toNatClampNeg) q
        · rw [if_pos (show (if false = true then (1 : Int32) else 0) = 0 from rfl), Bool.false_or]
          by_cases z : (hadS (fun q => (g q).toNatClampNeg) q).testBit v = true
          · rw [if_pos z, if_pos ((nI_bit1 (by omega) (by omega)).mpr z)]
          · rw [if_neg z, if_neg (fun y_ => z ((nI_bit1 (by omega) (by omega)).mp y_))]
        · rw [if_neg (show ¬ (if true = true then (1 : Int32) else 0) = 0 by decide), Bool.true_or, if_pos rfl]
      rw [e8]
      exact ih
    · rw [ev, h46] at z_
      have vi := rg0 (by omega) z_
      have h1 : okS g nm (q + 1) = false := by rw [okS, ho, vi]; rfl
      have := okS_up h1 k
      rw [show q + 1 + k = n by omega] at this
      exact bad this
theorem d_agenda {k sort i n : Int32} (hWf : Wf ω) (hd : 2 ≤ d) (hA : AO a) (hR : RM a σ) : Sp ω l yX9_agenda cX9_agenda 10 (some .int) d [.ref (ω.2.2.1 35), .int k, .int sort, .int i, .int n] σ (PM (o_agenda a k sort i n).1 (o_agenda a k sort i n).2 σ) := by
  have h9 := hR.fl 0
  have hE : EM σ (pS σ 2240 0) := EM.rf.s (by decide) _
  have hov : ∀ w, pS (pS σ 2240 0) 2240 w = pS σ 2240 w := fun w => pS_over σ 2240 0 w
  have hnp := hA.1.1
  refine Sp.of (by decide) (Nat.le_of_ble_eq_true rfl) hWf (fun κ K => ?_)
  by_cases h0 : (if k < 0 then (0 : Int32) else (if 3 < k then 0 else 1)) = 0
  · have hw : o_why a k sort i n = (-1, setFl a 0) := by unfold o_why; simp only [rgm0 (n := 3) (by decide) h0]
    have ho : o_agenda a k sort i n = (-1, setFl a 0) := by unfold o_agenda; rw [hw]; exact if_neg (show ¬ (-1 : Int32) = 0 by decide)
    rw [ho] at K
    exact R_X9_agenda_0 K hd (fun q_ => absurd h0 q_) (fun q_ => absurd h0 q_) (fun q_ => absurd h0 q_) (fun q_ => absurd h0 q_) (fun q_ => absurd h0 q_) (fun q_ => absurd h0 q_) (fun q_ => absurd h0 q_) (fun q_ => absurd h0 q_) (fun q_ => absurd h0 q_) (fun q_ => absurd h0 q_) (fun q_ => absurd h0 q_) (fun q_ => absurd h0 q_) (fun q_ => absurd h0 q_) (fun _ => PM.at rfl h9 hE)
  obtain ⟨j, hj, rfl, e⟩ := rgm1 (n := 3) (by decide) h0
  have hj : j < 4 := by omega
  have hin : vp_in (nI j) 4 := vp_in_nI (by omega) (by omega)
  have hcl : (nI j).toNatClampNeg = j := nI_clamp (by omega)
  by_cases h1 : (if sort < 0 then (0 : Int32) else (if 2 < sort then 0 else 1)) = 0
  · have hw : o_why a (nI j) sort i n = (-2, setFl a 0) := by unfold o_why; simp only [e, rgm0 (n := 2) (by decide) h1]
    have ho : o_agenda a (nI j) sort i n = (-2, setFl a 0) := by unfold o_agenda; rw [hw]; exact if_neg (show ¬ (-2 : Int32) = 0 by decide)
    rw [ho] at K
    exact R_X9_agenda_0 K hd (fun _ q_ => absurd h1 q_) (fun _ q_ => absurd h1 q_) (fun _ q_ => absurd h1 q_) (fun _ q_ => absurd h1 q_) (fun _ q_ => absurd h1 q_) (fun _ q_ => absurd h1 q_) (fun _ q_ => absurd h1 q_) (fun _ q_ => absurd h1 q_) (fun _ q_ => absurd h1 q_) (fun _ q_ => absurd h1 q_) (fun _ q_ => absurd h1 q_) (fun _ q_ => absurd h1 q_) (fun _ _ => PM.at rfl h9 hE) (fun q_ => absurd q_ h0)
  obtain ⟨s, hs, rfl, e2⟩ := rgm1 (n := 2) (by decide) h1
  have hag : agM (σ.2.1 36 (nI j).toNatClampNeg) (σ.2.1 37 (nI j).toNatClampNeg) (nI s) i n = nI (kindS (ash a j) (nI s) i n) := by rw [hcl]; exact agM_kind hR hj hA
  have hw := why_of (a := a) (i := i) (n := n) hj hs rfl
  have hk4 := kindS_le (ash a j) (nI s) i n
  by_cases hk0 : kindS (ash a j) (nI s) i n = 0
  · have h00 : (o_why a (nI j) (nI s) i n).1 = 0 := by rw [hw, if_pos hk0]
    obtain ⟨w1, j', so, len, c, p, q, hj', wj, w2, ws, rfl, rfl, w4, w5⟩ := why_0 hA h00
    have hjj : j = j' := (nI_eq (by omega) (by omega)).mp wj
    subst hjj
    have hz0 : agM (σ.2.1 36 (nI j).toNatClampNeg) (σ.2.1 37 (nI j).toNatClampNeg) (nI s) (nI p) (nI q) = 0 := by rw [hag, hk0]; rfl
    refine R_X9_agenda_0 K hd (fun _ _ => hin) (fun _ _ _ => hin) (fun _ _ _ _ _ _ => hin) (fun _ _ _ _ _ _ _ => hin) (fun _ _ _ => hin) (fun _ _ _ _ => hin) (fun _ _ _ _ _ _ _ => hin) (fun _ _ _ _ _ _ _ _ => hin) (fun _ _ _ t_ n_ => ?_) (fun _ _ _ t_ n_ => ?_) (fun _ _ _ t_ => ?_) (fun _ _ z_ => absurd hz0 z_) (fun _ q_ => absurd q_ h1) (fun q_ => absurd q_ h0)
    · have h3 := tw1 (n := tnp (att a)) (by rw [hR.1.1] at t_; exact t_)
      have hn : ¬ (q < 1 ∨ 6 < q) := fun z_ => n_ (by
        rcases z_ with z_ | z_
        · have y : nI q < 1 := (nI_ltI (b := 1) (by omega) (by decide)).mpr z_
          rw [if_pos y]
        · by_cases y : nI q < 1
          · rw [if_pos y]
          · have y6 : (6 : Int32) < nI q := (nI_ltI (a := 6) (by decide) (by omega)).mpr z_
            rw [if_neg y, if_pos y6])
      rcases shM_row h9 hj hA with ⟨r1, r2⟩ | ⟨s1, n1, c1, r1, r2, r3, r4, r5, r6, r7⟩
      · rw [show ash (setFl a 0) j = ash a j from rfl, w2] at r1
        cases r1
      rw [show ash (setFl a 0) j = ash a j from rfl, w2] at r1
      cases r1
      have ho : o_agenda a (nI j) (nI s) (nI p) (nI q) = agS (setFl a 0) (fun q => c (p + q)) q := by
        unfold o_agenda
        rw [if_pos h00, if_neg h3, nI_clamp (by omega), nI_clamp (by omega), nI_clamp (by omega), w2]
        rfl
      rw [ho] at K
      rw [show (80 : Int32) * nI j + nI p = nI (80 * j + p) by rw [show (80 : Int32) = nI 80 from rfl, pk_mul, nI_add]]
      refine agM_loop (σ := pS σ 2240 0) (b := 80 * j + p) (nm := tnm (att a)) (g := fun q => c (p + q)) (by omega) hA.1.2.1 h9.1.2.1 (by omega) (fun r hr => by rw [Nat.add_assoc]; exact r6 _ (by omega)) (by omega) K (fun y_ => ?_) (fun y1_ y2_ => ?_) (fun y1_ y2_ σ' hE1 h41 => ?_) q 0 (by omega) rfl
      · rw [agS_bad (a := setFl a 0) hn y_]
        exact PM.at rfl h9 hE
      · rw [agS_two (a := setFl a 0) hn y1_ y2_]
        exact PM.at rfl h9 hE
      · rw [agS_ok (a := setFl a 0) hn y1_ y2_]
        have hE2 : Eqx [2251] [41] (pS σ 2240 0) (pS σ' 2251 (nI q)) := (hE1.mono (by simp) (by simp)).pS (by simp) _
        refine PM.at rfl (h9.town (h9.1.agenda hE1 (fun r hr => ?_)) hE2 (by decide) (by decide)) (hE.tr (EM.of hE2 (by decide) (by decide)))
        obtain ⟨v, -, v2, v3, v4⟩ := okS_at y1_ hr
        rw [h41 r hr, Nat.add_assoc]
        refine (r6 _ (by omega)).trans ?_
        show c (p + r) = nI (c (p + r)).toNatClampNeg
        rw [show c (p + r) = nI v from v2, nI_clamp v3]
    · have h3 := tw1 (n := tnp (att a)) (by rw [hR.1.1] at t_; exact t_)
      have hn : q < 1 ∨ 6 < q := by
        by_cases y : nI q < 1
        · exact Or.inl ((nI_ltI (b := 1) (by omega) (by decide)).mp y)
        · rw [if_neg y] at n_
          by_cases y2 : 6 < nI q
          · exact Or.inr ((nI_ltI (a := 6) (by decide) (by omega)).mp y2)
          · rw [if_neg y2] at n_
            exact absurd n_ (by decide)
      have ho : o_agenda a (nI j) (nI s) (nI p) (nI q) = (-2, setFl a 0) := by
        unfold o_agenda
        rw [if_pos h00, if_neg h3, nI_clamp (by omega), nI_clamp (by omega), nI_clamp (by omega), agS_out hn]
      rw [ho]
      exact PM.at rfl h9 hE
    · have hz : tnp (att a) = 0 := tw0 (by omega) (by rw [hR.1.1] at t_; exact t_)
      have ho : o_agenda a (nI j) (nI s) (nI p) (nI q) = (-3, setFl a 0) := by
        unfold o_agenda
        rw [if_pos h00, if_pos hz]
      rw [ho]
      exact PM.at rfl h9 hE
  · have hz0 : ¬ agM (σ.2.1 36 (nI j).toNatClampNeg) (σ.2.1 37 (nI j).toNatClampNeg) (nI s) i n = 0 := by
      rw [hag]
      exact fun z_ => hk0 ((nI_eq (b := 0) (by omega) (by decide)).mp z_)
    rw [if_neg hk0] at hw
    have ho : o_agenda a (nI j) (nI s) i n = (-10 - nI (kindS (ash a j) (nI s) i n), setFl a (nI (kindS (ash a j) (nI s) i n))) := by
      unfold o_agenda
      rw [hw]
      exact if_neg (neg10 hk4)
    rw [ho] at K
    refine R_X9_agenda_0 K hd (fun _ _ => hin) (fun _ _ _ => hin) (fun _ _ _ _ _ _ => hin) (fun _ _ _ _ _ _ _ => hin) (fun _ _ _ => hin) (fun _ _ _ _ => hin) (fun _ _ _ _ _ _ _ => hin) (fun _ _ _ _ _ _ _ _ => hin) (fun _ _ z_ => absurd z_ hz0) (fun _ _ z_ => absurd z_ hz0) (fun _ _ z_ => absurd z_ hz0) (fun _ _ z_ => ?_) (fun _ q_ => absurd q_ h1) (fun q_ => absurd q_ h0)
    show PM _ _ σ (some (.int (-10 - agM (σ.2.1 36 (nI j).toNatClampNeg) (σ.2.1 37 (nI j).toNatClampNeg) (nI s) i n))) (pS (pS σ 2240 0) 2240 (agM (σ.2.1 36 (nI j).toNatClampNeg) (σ.2.1 37 (nI j).toNatClampNeg) (nI s) i n))
    rw [hag, hov]
    exact PM.at rfl (hR.fl _) (EM.rf.s (by decide) _)
end AGENDA
