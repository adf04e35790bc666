/-! ===== a matter put to the vote: Hall.step, the model's goOn ===== -/
def Eqx (ks as : List Nat) (σ σ' : St) : Prop := (∀ k, k ∉ ks → σ'.1 k = σ.1 k) ∧ (∀ k, k ∉ as → σ'.2.1 k = σ.2.1 k) ∧ (∀ k, k ∉ ks → σ'.2.2.1 k = σ.2.2.1 k) ∧ ∀ k, k ∉ as → σ'.2.2.2 k = σ.2.2.2 k
theorem Eqx.rf {ks as : List Nat} {σ : St} : Eqx ks as σ σ := ⟨fun _ _ => rfl, fun _ _ => rfl, fun _ _ => rfl, fun _ _ => rfl⟩
theorem Eqx.tr {ks as : List Nat} {σ σ1 σ2 : St} (h : Eqx ks as σ σ1) (h2 : Eqx ks as σ1 σ2) : Eqx ks as σ σ2 :=
  ⟨fun k hk => (h2.1 k hk).trans (h.1 k hk), fun k hk => (h2.2.1 k hk).trans (h.2.1 k hk), fun k hk => (h2.2.2.1 k hk).trans (h.2.2.1 k hk), fun k hk => (h2.2.2.2 k hk).trans (h.2.2.2 k hk)⟩
theorem Eqx.mono {ks as ks' as' : List Nat} {σ σ1 : St} (h : Eqx ks as σ σ1) (h1 : ∀ k ∈ ks, k ∈ ks') (h2 : ∀ k ∈ as, k ∈ as') : Eqx ks' as' σ σ1 :=
  ⟨fun k hk => h.1 k (fun z => hk (h1 k z)), fun k hk => h.2.1 k (fun z => hk (h2 k z)), fun k hk => h.2.2.1 k (fun z => hk (h1 k z)), fun k hk => h.2.2.2 k (fun z => hk (h2 k z))⟩
theorem Eqx.pS {ks as : List Nat} {σ σ1 : St} (h : Eqx ks as σ σ1) {k : Nat} (hk : k ∈ ks) (v : Int32) : Eqx ks as σ (pS σ1 k v) :=
  ⟨fun j hj => by
    have : j ≠ k := fun e => hj (e ▸ hk)
    show (if j = k then v else σ1.1 j) = _
    rw [if_neg this]; exact h.1 j hj, h.2.1, h.2.2.1, h.2.2.2⟩
theorem Eqx.pL {ks as : List Nat} {σ σ1 : St} (h : Eqx ks as σ σ1) {k : Nat} (hk : k ∈ ks) (v : Int64) : Eqx ks as σ (pL σ1 k v) :=
  ⟨h.1, h.2.1, fun j hj => by
    have : j ≠ k := fun e => hj (e ▸ hk)
    show (if j = k then v else σ1.2.2.1 j) = _
    rw [if_neg this]; exact h.2.2.1 j hj, h.2.2.2⟩
theorem Eqx.pF {ks as : List Nat} {σ σ1 : St} (h : Eqx ks as σ σ1) {k : Nat} (hk : k ∈ as) (f : Nat → Int32) : Eqx ks as σ (pF σ1 k f) :=
  ⟨h.1, fun j hj => by
    have : j ≠ k := fun e => hj (e ▸ hk)
    show (if j = k then f else σ1.2.1 j) = _
    rw [if_neg this]; exact h.2.1 j hj, h.2.2.1, h.2.2.2⟩
theorem Eqx.pA {ks as : List Nat} {σ σ1 : St} (h : Eqx ks as σ σ1) {k : Nat} (hk : k ∈ as) (i : Nat) (v : Int32) : Eqx ks as σ (pA σ1 k i v) :=
  ⟨h.1, fun j hj => by
    have : j ≠ k := fun e => hj (e ▸ hk)
    show (if j = k then upd (σ1.2.1 k) i v else σ1.2.1 j) = _
    rw [if_neg this]; exact h.2.1 j hj, h.2.2.1, h.2.2.2⟩
theorem Eqx.pG {ks as : List Nat} {σ σ1 : St} (h : Eqx ks as σ σ1) {k : Nat} (hk : k ∈ as) (f : Nat → Int64) : Eqx ks as σ (pG σ1 k f) :=
  ⟨h.1, h.2.1, h.2.2.1, fun j hj => by
    have : j ≠ k := fun e => hj (e ▸ hk)
    show (if j = k then f else σ1.2.2.2 j) = _
    rw [if_neg this]; exact h.2.2.2 j hj⟩
theorem Eqx.pM {ks as : List Nat} {σ σ1 : St} (h : Eqx ks as σ σ1) {k : Nat} (hk : k ∈ as) (i : Nat) (v : Int64) : Eqx ks as σ (pM σ1 k i v) :=
  ⟨h.1, h.2.1, h.2.2.1, fun j hj => by
    have : j ≠ k := fun e => hj (e ▸ hk)
    show (if j = k then vp_updL (σ1.2.2.2 k) i v else σ1.2.2.2 j) = _
    rw [if_neg this]; exact h.2.2.2 j hj⟩
/-- a town stays, if nothing of it is written -/
theorem TC.keep {t : Tn} {σ σ' : St} {ks as : List Nat} (h : TC t σ) (e : Eqx ks as σ σ') (hk : ∀ k ∈ [640, 641, 642, 643, 644, 645, 646], k ∉ ks) (ha : ∀ k ∈ [11, 12, 13], k ∉ as) : TC t σ' := by
  obtain ⟨h1, h2, h3, h4, h5, h6, h7, h8, h9, h10⟩ := h
  refine ⟨?_, ?_, ?_, ?_, ?_, ?_, ?_, ?_, ?_, ?_⟩
  · rw [e.1 _ (hk _ (by simp))]; exact h1
  · rw [e.1 _ (hk _ (by simp))]; exact h2
  · rw [e.1 _ (hk _ (by simp))]; exact h3
  · rw [e.1 _ (hk _ (by simp))]; exact h4
  · rw [e.1 _ (hk _ (by simp))]; exact h5
  · rw [e.1 _ (hk _ (by simp))]; exact h6
  · rw [e.1 _ (hk _ (by simp))]; exact h7
  · rw [e.2.1 _ (ha _ (by simp))]; exact h8
  · rw [e.2.1 _ (ha _ (by simp))]; exact h9
  · rw [e.2.1 _ (ha _ (by simp))]; exact h10
theorem TM.keep {t : Tn} {σ σ' : St} {ks as : List Nat} (h : TM t σ) (e : Eqx ks as σ σ') (hk : ∀ k ∈ [2245, 2246, 2249, 2250, 2251], k ∉ ks) (ha : ∀ k ∈ [39, 40, 41], k ∉ as) : TM t σ' := by
  obtain ⟨h1, h2, h3, h4, h5, h6, h7, h8⟩ := h
  refine ⟨?_, ?_, ?_, ?_, ?_, ?_, ?_, ?_⟩
  · rw [e.1 _ (hk _ (by simp))]; exact h1
  · rw [e.1 _ (hk _ (by simp))]; exact h2
  · rw [e.1 _ (hk _ (by simp))]; exact h3
  · rw [e.1 _ (hk _ (by simp))]; exact h4
  · rw [e.1 _ (hk _ (by simp))]; exact h5
  · rw [e.2.1 _ (ha _ (by simp))]; exact h6
  · rw [e.2.1 _ (ha _ (by simp))]; exact h7
  · rw [e.2.1 _ (ha _ (by simp))]; exact h8
theorem cb_or {a b : Nat} : ∀ {n : Nat}, (∀ i, i < n → ¬ (a.testBit i = true ∧ b.testBit i = true)) → cb (a ||| b) n = cb a n + cb b n
  | 0, _ => rfl
  | n + 1, h => by
    have ih := cb_or (a := a) (b := b) (n := n) (fun i hi => h i (by omega))
    have hn := h n (by omega)
    rw [cb, cb, cb, ih, Nat.testBit_or]
    cases ha : a.testBit n <;> cases hb : b.testBit n <;> simp_all <;> omega
theorem fo8 {s c np : Nat} (hs : s < 2 ^ np) (hnp : np ≤ 8) : foS s c 8 = foS s c np := by
  have := foS_top (c := c) hs (8 - np)
  rw [show np + (8 - np) = 8 by omega] at this
  exact this
theorem cb8 {s np : Nat} (hs : s < 2 ^ np) (hnp : np ≤ 8) : cb s 8 = cb s np := by
  have := cb_top hs (8 - np)
  rw [show np + (8 - np) = 8 by omega] at this
  exact this
theorem m_winnersFirst {ω : WT} {l : Launch} {d np n set yy : Nat} {oc : Int32} {σ : St} (hWf : Wf ω) (hd : 1 ≤ d) (hp : σ.1 640 = nI np) (hnp : np ≤ 8) (h99 : σ.1 899 = nI yy) (h00 : σ.1 900 = oc) (h01 : σ.1 901 = nI n) (hs : set < 2 ^ np) (hyy : ∀ i, yy.testBit i = true → set.testBit i = true) (hn : n ≤ 8) :
    Sp ω l yX2_winnersFirst cX2_winnersFirst 4 (some .int) d [.ref (ω.2.2.1 14), .int (nI set)] σ (rI (nI (winS np set yy oc n)) σ) := by
  refine Sp.of (by decide) (Nat.le_of_ble_eq_true rfl) hWf (fun κ K => R_X2_winnersFirst_0 K ?_)
  have hp8 := p2_le8 hnp
  have d1 := dif hs hyy
  have hw := wonS_sub (oc := oc) hs hyy
  have d2 := dif hs hw
  have hwl := sub_lt hs hw
  have hal : ∀ i, set.testBit i = true → (2 ^ np - 1).testBit i = true := by
    intro i hi
    rw [all_bit]
    refine decide_eq_true (Classical.byContradiction fun q => ?_)
    rw [Nat.testBit_lt_two_pow (Nat.lt_of_lt_of_le hs (Nat.pow_le_pow_right (by omega) (by omega)))] at hi
    cases hi
  have d3 := dif (s := 2 ^ np - 1) (n := np) (by omega) hal
  obtain ⟨a1, o1, s1⟩ := foS_ok (wonS set yy oc) n np
  obtain ⟨a2, o2, s2⟩ := foS_ok (set - wonS set yy oc) (foS (wonS set yy oc) n np).2 np
  obtain ⟨a3, o3, s3⟩ := foS_ok (2 ^ np - 1 - set) (foS (set - wonS set yy oc) (foS (wonS set yy oc) n np).2 np).2 np
  rw [h99, h00, h01]
  have e1 : (if oc = 1 then nI yy else nI set &&& (nI yy ^^^ -1)) = nI (wonS set yy oc) := by
    unfold wonS
    split
    · rfl
    · rw [nI_andnot hs, d1.2]
  rw [e1]
  refine C_X2_winnersFirst_29 K hd (m_firstOf hWf (by omega) (by omega)) (go_I ?_)
  rw [fo8 hwl hnp]
  refine R_X2_winnersFirst_32 K hd ?_
  rw [h01, F_bc_n _ (by omega), cb8 a1 hnp, pk_sub (by omega), nI_andnot hs, ← d2.2, show n - cb (foS (wonS set yy oc) n np).1 np = (foS (wonS set yy oc) n np).2 by omega]
  refine C_X2_winnersFirst_48 K hd (m_firstOf hWf (by omega) (by omega)) (go_I ?_)
  rw [fo8 (by omega) hnp]
  refine R_X2_winnersFirst_51 K hd ?_
  have hor : (foS (wonS set yy oc) n np).1 ||| (foS (set - wonS set yy oc) (foS (wonS set yy oc) n np).2 np).1 < 2 ^ np := Nat.or_lt_two_pow a1 a2
  have hc : cb ((foS (wonS set yy oc) n np).1 ||| (foS (set - wonS set yy oc) (foS (wonS set yy oc) n np).2 np).1) np = cb (foS (wonS set yy oc) n np).1 np + cb (foS (set - wonS set yy oc) (foS (wonS set yy oc) n np).2 np).1 np := by
    refine cb_or (fun i hi hh => ?_)
    have q1 := s1 i hh.1
    have q2 := s2 i hh.2
    rw [d2.2, bs_bit, q1] at q2
    simp at q2
  rw [fa_or, h01, hp, F_bc_n _ (by omega), cb8 hor hnp, hc, pk_sub (by omega), sh1 np (by omega), show nI (2 ^ np) - 1 = nI (2 ^ np - 1) from by rw [show (1 : Int32) = nI 1 from rfl, pk_sub (by omega)], nI_andnot (n := np) (by omega), ← d3.2,
    show n - (cb (foS (wonS set yy oc) n np).1 np + cb (foS (set - wonS set yy oc) (foS (wonS set yy oc) n np).2 np).1 np) = (foS (set - wonS set yy oc) (foS (wonS set yy oc) n np).2 np).2 by omega]
  refine C_X2_winnersFirst_74 K hd (m_firstOf hWf (by omega) (by omega)) (go_I ?_)
  rw [fo8 (by omega) hnp]
  refine R_X2_winnersFirst_77 K ⟨?_, rfl⟩
  rw [fa_or]
  rfl
theorem fo_all : ∀ np, np < 9 → ∀ n, n ≤ np → (foS (2 ^ np - 1) n 8).1 = 2 ^ n - 1 := by decide +kernel
theorem m_seated {ω : WT} {l : Launch} {d np la n set yy last : Nat} {oc : Int32} {σ : St} (hWf : Wf ω) (hd : 2 ≤ d) (hp : σ.1 640 = nI np) (hnp : np ≤ 8) (hla : σ.1 898 = nI la) (hla2 : la ≤ 2) (h99 : σ.1 899 = nI yy) (h00 : σ.1 900 = oc) (h01 : σ.1 901 = nI n) (hs : set < 2 ^ np) (hyy : ∀ i, yy.testBit i = true → set.testBit i = true) (hn : n ≤ np) (hl : last < np) :
    Sp ω l yX2_seated cX2_seated 3 (some .int) d [.ref (ω.2.2.1 14), .int (nI set), .int (nI last)] σ (rI (nI ((seatS np la set yy oc n last).2 * 256 + (seatS np la set yy oc n last).1)) σ) := by
  have hp8 := p2_le8 hnp
  have e256 : nI last * 256 = nI (last * 256) := by rw [show (256 : Int32) = nI 256 from rfl, pk_mul]
  refine Sp.of (by decide) (Nat.le_of_ble_eq_true rfl) hWf (fun κ K => R_X2_seated_0 K (by omega) (fun q0 q1 => ?_) (fun q0 q1 q2 => ?_) (fun q0 q1 q2 => ?_) (fun q0 => ?_))
  · have n0 : ¬ n = 0 := fun z => q0 (by rw [h01, z]; rfl)
    have l0 : la = 0 := by
      rw [hla] at q1
      exact (nI_eq (b := 0) (by omega) (by omega)).mp q1
    rw [h01, hp, sh1 np (by omega), show nI (2 ^ np) - 1 = nI (2 ^ np - 1) from by rw [show (1 : Int32) = nI 1 from rfl, pk_sub (by omega)], e256]
    refine C_X2_seated_60 K (by omega) (m_firstOf hWf (by omega) (by omega)) (go_I ?_)
    refine R_X2_seated_63 K ⟨?_, rfl⟩
    rw [fo_all np (by omega) n hn, nI_add]
    unfold seatS
    rw [if_neg n0, if_pos l0]
  · have n0 : ¬ n = 0 := fun z => q0 (by rw [h01, z]; rfl)
    have l1 : la = 1 := by
      rw [hla] at q2
      exact (nI_eq (b := 1) (by omega) (by omega)).mp q2
    rw [e256]
    refine C_X2_seated_72 K (by omega) (m_winnersFirst hWf (by omega) hp hnp h99 h00 h01 hs hyy (by omega)) (go_I ?_)
    refine R_X2_seated_75 K ⟨?_, rfl⟩
    rw [nI_add]
    unfold seatS
    rw [if_neg n0, if_neg (by omega), if_pos l1]
  · have n0 : ¬ n = 0 := fun z => q0 (by rw [h01, z]; rfl)
    have l0 : ¬ la = 0 := fun z => q1 (by rw [hla, z]; rfl)
    have l1 : ¬ la = 1 := fun z => q2 (by rw [hla, z]; rfl)
    refine C_X2_seated_79 K (by omega) (m_inTurn hWf h01 hp hnp hl (by omega)) (go_I ?_)
    refine R_X2_seated_82 K ⟨?_, rfl⟩
    unfold seatS
    rw [if_neg n0, if_neg l0, if_neg l1]
  · have n0 : n = 0 := by
      rw [h01] at q0
      exact (nI_eq (b := 0) (by omega) (by omega)).mp q0
    refine ⟨?_, rfl⟩
    rw [e256]
    unfold seatS
    rw [if_pos n0]
    show some (Value.int (nI (last * 256))) = some (Value.int (nI (last * 256 + 0)))
    rw [Nat.add_zero]
theorem seat_tab2 : ∀ me, me < 4 → ∀ np, np < 9 → ∀ a, a < 9 → ∀ b, b < 9 → (if nI a = nI b then (0 : Int32) else (if nI np < (if nI me = 0 then ((if nI a < nI b then nI b else nI a) - (if nI b < nI a then nI b else nI a)) else (if nI me = 1 then (if nI a < nI b then nI b else nI a) else (if nI me = 2 then (if nI b < nI a then nI b else nI a) else (2 * ((if nI a < nI b then nI b else nI a) - (if nI b < nI a then nI b else nI a)))))) then nI np else (if nI me = 0 then ((if nI a < nI b then nI b else nI a) - (if nI b < nI a then nI b else nI a)) else (if nI me = 1 then (if nI a < nI b then nI b else nI a) else (if nI me = 2 then (if nI b < nI a then nI b else nI a) else (2 * ((if nI a < nI b then nI b else nI a) - (if nI b < nI a then nI b else nI a)))))))) = nI (seatsS me np a b) := by decide +kernel
theorem or_all : ∀ last, last < 8 → ∀ np, np < 9 → (last * 256 ||| (2 ^ np - 1)) = last * 256 + (2 ^ np - 1) := by decide +kernel
/-- Hall.step -/
theorem m_step {ω : WT} {l : Launch} {d me la set last wz fz : Nat} {t : Tn} {σ : St} (hWf : Wf ω) (hd : 3 ≤ d) (hT : TC t σ) (hO : TO t) (hme : σ.1 897 = nI me) (hme3 : me ≤ 3) (hla : σ.1 898 = nI la) (hla2 : la ≤ 2) (hs : set < 2 ^ tnp t) (hl : last < tnp t) :
    Sp ω l yX2_step cX2_step 7 (some .int) d [.ref (ω.2.2.1 14), .int (nI (last * 256 + set)), .int (nI wz), .int (nI fz)] σ
      (rI (nI ((stepS (tnp t) me la (tkd t) wz.testBit fz.testBit (set, last)).2.2.2.2 * 256 + (stepS (tnp t) me la (tkd t) wz.testBit fz.testBit (set, last)).2.2.2.1))
        (pS (pS (pS σ 899 (nI (stepS (tnp t) me la (tkd t) wz.testBit fz.testBit (set, last)).1)) 900 (stepS (tnp t) me la (tkd t) wz.testBit fz.testBit (set, last)).2.1) 901 (nI (stepS (tnp t) me la (tkd t) wz.testBit fz.testBit (set, last)).2.2.1))) := by
  have hnp := hO.1
  have hp := hT.1
  have hp8 := p2_le8 hnp
  have e255 : nI (last * 256 + set) &&& 255 = nI set := by
    rw [show (255 : Int32) = nI (2 ^ 8 - 1) from rfl, fa_mask]
    congr 1
    omega
  have ediv : nI (last * 256 + set) / 256 = nI last := by
    rw [show (256 : Int32) = nI 256 from rfl, pk_div (by omega) (by omega) (by omega)]
    congr 1
    omega
  refine Sp.of (by decide) (Nat.le_of_ble_eq_true rfl) hWf (fun κ K => R_X2_step_0 K (by omega) (fun q0 => ?_) (fun q0 => ?_))
  · rw [e255] at q0
    have s0 : ¬ set = 0 := fun z => q0 (by rw [z]; rfl)
    rw [e255]
    refine C_X2_step_49 K (by omega) (m_sayings hWf hT hO) (go_I ?_)
    obtain ⟨b1, b2, b3, b4⟩ := pollS_ok (tkd t) wz.testBit fz.testBit set (tnp t)
    obtain ⟨hn1, hn2⟩ := pollS_n (tkd t) wz.testBit fz.testBit set (tnp t)
    generalize hy : (pollS (tkd t) wz.testBit fz.testBit set (tnp t)).1 = yy at *
    generalize ha : (pollS (tkd t) wz.testBit fz.testBit set (tnp t)).2.1 = a at *
    generalize hb : (pollS (tkd t) wz.testBit fz.testBit set (tnp t)).2.2 = b at *
    have hstep : stepS (tnp t) me la (tkd t) wz.testBit fz.testBit (set, last) = (yy, ocS a b, seatsS me (tnp t) a b, seatS (tnp t) la set yy (ocS a b) (seatsS me (tnp t) a b) last) := by
      simp only [stepS, if_neg s0, hy, ha, hb]
    rw [hstep] at K
    refine R_X2_step_52 K (by omega) ?_
    rw [F_bc_n yy (by omega), F_bc_n set (by omega), cb8 b1 hnp, cb8 hs hnp, ← b3, ← b2, pk_sub (by omega), show a + b - a = b by omega, oc_tab a (by omega) b (by omega)]
    refine R_X2_step_102 K (by omega) ?_
    have e1 : (pS (pS σ 899 (nI yy)) 900 (ocS a b)).1 897 = nI me := hme
    have e2 : (pS (pS σ 899 (nI yy)) 900 (ocS a b)).1 640 = nI (tnp t) := hp
    rw [e1, e2, seat_tab2 me (by omega) _ (by omega) a (by omega) b (by omega), ediv]
    refine C_X2_step_153 K (by omega) (m_seated (n := seatsS me (tnp t) a b) (yy := yy) (oc := ocS a b) hWf (by omega) hp hnp hla hla2 rfl rfl rfl hs b4 (seatsS_le _ _ _ _) hl) (go_I ?_)
    exact R_X2_step_156 K ⟨rfl, rfl⟩
  · rw [e255] at q0
    have s0 : set = 0 := (nI_eq (b := 0) (by omega) (by omega)).mp q0
    have hstep : stepS (tnp t) me la (tkd t) wz.testBit fz.testBit (set, last) = (0, -6, tnp t, 2 ^ tnp t - 1, last) := by
      simp [stepS, s0]
    rw [hstep, s0, hp]
    refine ⟨?_, rfl⟩
    rw [sh1 _ (by omega), show nI (2 ^ tnp t) - 1 = nI (2 ^ tnp t - 1) from by rw [show (1 : Int32) = nI 1 from rfl, pk_sub (by omega)], fa_or, Nat.add_zero, or_all last (by omega) _ (by omega)]

/-- who sits in the model, who got the last seat -/
def MM (m : Nat × Nat) (σ : St) : Prop := σ.1 2260 = nI m.2 ∧ (m.1 = 0 → σ.1 2259 = 1) ∧ (m.1 ≠ 0 → σ.1 2259 = 0 ∧ σ.1 2258 = nI m.1)
theorem foS_pos {s c : Nat} (hc : 0 < c) : ∀ {x : Nat}, (∃ i, i < x ∧ s.testBit i = true) → 0 < (foS s c x).1 := by
  intro x
  induction x with
  | zero => rintro ⟨i, hi, -⟩; omega
  | succ x ih =>
    rintro ⟨i, hi, hb⟩
    rw [foS]
    by_cases h : s.testBit x = true ∧ 0 < (foS s c x).2
    · rw [if_pos h]
      have : 0 < 2 ^ x := Nat.two_pow_pos x
      show 0 < _ + 2 ^ x
      omega
    · rw [if_neg h]
      by_cases e : i = x
      · subst e
        have h0 : (foS s c i).2 = 0 := by
          rcases Nat.eq_zero_or_pos (foS s c i).2 with z | z
          · exact z
          · exact absurd ⟨hb, z⟩ h
        obtain ⟨-, o, -⟩ := foS_ok s c i
        rcases Nat.eq_zero_or_pos (foS s c i).1 with z | z
        · rw [z, h0] at o
          have : cb 0 i = 0 := by
            clear o h0 z h hb hi ih
            induction i with
            | zero => rfl
            | succ i ih => rw [cb, ih]; simp
          omega
        · exact z
      · exact ih ⟨i, by omega, hb⟩
theorem tb_pos {s : Nat} (h : 0 < s) {n : Nat} (hs : s < 2 ^ n) : ∃ i, i < n ∧ s.testBit i = true := by
  refine Classical.byContradiction fun q => ?_
  have : s = 0 := by
    apply Nat.eq_of_testBit_eq
    intro i
    rw [Nat.zero_testBit]
    by_cases hi : i < n
    · cases e : s.testBit i
      · rfl
      · exact absurd ⟨i, hi, e⟩ q
    · exact Nat.testBit_lt_two_pow (Nat.lt_of_lt_of_le hs (Nat.pow_le_pow_right (by omega) (by omega)))
  omega
theorem or_pos {a b : Nat} (h : 0 < a ∨ 0 < b) : 0 < a ||| b := by
  rcases Nat.eq_zero_or_pos (a ||| b) with z | z
  · have := Nat.or_eq_zero_iff.mp z
    omega
  · exact z
/-- who is seated, is somebody, and one of the people -/
theorem seatS_ok {np la set yy n last : Nat} {oc : Int32} (h1 : 1 ≤ np) (hnp : np ≤ 8) (hs : set < 2 ^ np) (hyy : ∀ i, yy.testBit i = true → set.testBit i = true) (hn : n ≤ np) (hl : last < np) : (seatS np la set yy oc n last).1 < 2 ^ np ∧ (seatS np la set yy oc n last).2 < np ∧ (n ≠ 0 → (seatS np la set yy oc n last).1 ≠ 0) := by
  have hpos : 0 < 2 ^ np := Nat.two_pow_pos np
  unfold seatS
  by_cases n0 : n = 0
  · rw [if_pos n0]
    exact ⟨hpos, hl, fun z => absurd n0 z⟩
  rw [if_neg n0]
  by_cases l0 : la = 0
  · rw [if_pos l0]
    have e1 : 2 ^ n ≤ 2 ^ np := Nat.pow_le_pow_right (by omega) hn
    have e2 : 2 ^ 1 ≤ 2 ^ n := Nat.pow_le_pow_right (by omega) (by omega)
    exact ⟨by show 2 ^ n - 1 < _; omega, hl, fun _ => by show 2 ^ n - 1 ≠ 0; omega⟩
  rw [if_neg l0]
  by_cases l1 : la = 1
  · rw [if_pos l1]
    obtain ⟨a1, o1, s1⟩ := foS_ok (wonS set yy oc) n np
    obtain ⟨a2, o2, s2⟩ := foS_ok (set - wonS set yy oc) (foS (wonS set yy oc) n np).2 np
    obtain ⟨a3, o3, s3⟩ := foS_ok (2 ^ np - 1 - set) (foS (set - wonS set yy oc) (foS (wonS set yy oc) n np).2 np).2 np
    refine ⟨Nat.or_lt_two_pow (Nat.or_lt_two_pow a1 a2) a3, hl, fun _ => ?_⟩
    have hw := wonS_sub (oc := oc) hs hyy
    have d2 := dif hs hw
    show winS np set yy oc n ≠ 0
    unfold winS
    have key : 0 < (foS (wonS set yy oc) n np).1 ∨ 0 < (foS (set - wonS set yy oc) (foS (wonS set yy oc) n np).2 np).1 ∨ 0 < (foS (2 ^ np - 1 - set) (foS (set - wonS set yy oc) (foS (wonS set yy oc) n np).2 np).2 np).1 := by
      have h0 : ∀ m, cb 0 m = 0 := by
        intro m
        induction m with
        | zero => rfl
        | succ m ih => rw [cb, ih]; simp
      rcases Nat.eq_zero_or_pos (foS (wonS set yy oc) n np).1 with z1 | z1
      · rw [z1, h0] at o1
        have w0 : wonS set yy oc = 0 := by
          rcases Nat.eq_zero_or_pos (wonS set yy oc) with z | z
          · exact z
          · exact absurd (foS_pos (c := n) (by omega) (tb_pos z (sub_lt hs hw))) (by omega)
        rcases Nat.eq_zero_or_pos (foS (set - wonS set yy oc) (foS (wonS set yy oc) n np).2 np).1 with z2 | z2
        · rw [z2, h0] at o2
          have w1 : set - wonS set yy oc = 0 := by
            rcases Nat.eq_zero_or_pos (set - wonS set yy oc) with z | z
            · exact z
            · exact absurd (foS_pos (c := (foS (wonS set yy oc) n np).2) (by omega) (tb_pos (n := np) z (by omega))) (by omega)
          have e2 : 2 ^ 1 ≤ 2 ^ np := Nat.pow_le_pow_right (by omega) h1
          exact Or.inr (Or.inr (foS_pos (by omega) (tb_pos (n := np) (by omega) (by omega))))
        · exact Or.inr (Or.inl z2)
      · exact Or.inl z1
    have : 0 < (foS (wonS set yy oc) n np).1 ||| (foS (set - wonS set yy oc) (foS (wonS set yy oc) n np).2 np).1 ||| (foS (2 ^ np - 1 - set) (foS (set - wonS set yy oc) (foS (wonS set yy oc) n np).2 np).2 np).1 := by
      rcases key with k | k | k
      · exact or_pos (Or.inl (or_pos (Or.inl k)))
      · exact or_pos (Or.inl (or_pos (Or.inr k)))
      · exact or_pos (Or.inr k)
    omega
  rw [if_neg l1]
  have key : ∀ k, (rndS np last k).1 < 2 ^ np := by
    intro k
    induction k with
    | zero => exact hpos
    | succ k ih => exact Nat.or_lt_two_pow ih (Nat.pow_lt_pow_right (by omega) (Nat.mod_lt _ (by omega)))
  refine ⟨key n, (rndS_ok hl hnp n).1, fun _ => ?_⟩
  obtain ⟨k, rfl⟩ : ∃ k, n = k + 1 := ⟨n - 1, by omega⟩
  have : 0 < (rndS np last (k + 1)).1 := or_pos (Or.inr (Nat.two_pow_pos _))
  omega
theorem m_seatAnew {ω : WT} {l : Launch} {d np la n set yy last : Nat} {oc : Int32} {σ : St} (hWf : Wf ω) (hd : 2 ≤ d) (h1 : 1 ≤ np) (hp : σ.1 2245 = nI np) (hnp : np ≤ 8) (hla : σ.1 2262 = nI la) (hla2 : la ≤ 2) (h63 : σ.1 2263 = nI set) (h64 : σ.1 2264 = nI yy) (h65 : σ.1 2265 = oc) (h66 : σ.1 2266 = nI n) (h60 : σ.1 2260 = nI last) (h59 : σ.1 2259 = 0) (hs : set < 2 ^ np) (hyy : ∀ i, yy.testBit i = true → set.testBit i = true) (hn : n ≤ np) (hl : last < np) :
    Sp ω l yX9_seatAnew cX9_seatAnew 1 none d [.ref (ω.2.2.1 35)] σ (fun v σ' => v = none ∧ MM (seatS np la set yy oc n last) σ' ∧ Eqx [2258, 2259, 2260] [] σ σ') := by
  have hok := seatS_ok (la := la) (oc := oc) h1 hnp hs hyy hn hl
  refine Sp.of (by decide) (Nat.le_of_ble_eq_true rfl) hWf (fun κ K => R_X9_seatAnew_0 K (fun q0 q1 q2 => ?_) (fun q0 q1 q2 => ?_) (fun q0 q1 => ?_) (fun q0 => ?_))
  · have n0 : ¬ n = 0 := fun z => q0 (by rw [h66, z]; rfl)
    have l0 : ¬ la = 0 := fun z => q1 (by rw [hla, z]; rfl)
    have l1 : ¬ la = 1 := fun z => q2 (by rw [hla, z]; rfl)
    have e : seatS np la set yy oc n last = rndS np last n := by
      unfold seatS
      rw [if_neg n0, if_neg l0, if_neg l1]
    rw [e] at K hok
    refine C_X9_seatAnew_51 K (by omega) (m_seatRound hWf h66 hp h60 hnp hl (by omega)) (go_V ?_)
    refine R_X9_seatAnew_54 K ⟨rfl, ⟨rfl, fun z => absurd z (hok.2.2 n0), fun _ => ⟨h59, rfl⟩⟩, (Eqx.rf.pS (by simp) _).pS (by simp) _⟩
  · have n0 : ¬ n = 0 := fun z => q0 (by rw [h66, z]; rfl)
    have l1 : la = 1 := by
      rw [hla] at q2
      exact (nI_eq (b := 1) (by omega) (by omega)).mp q2
    have e : seatS np la set yy oc n last = (winS np set yy oc n, last) := by
      unfold seatS
      rw [if_neg n0, if_neg (by omega), if_pos l1]
    rw [e] at K hok
    refine C_X9_seatAnew_44 K (by omega) (m_seatWinners hWf (by omega) hp hnp h63 h64 h65 h66 hs hyy (by omega)) (go_V ?_)
    exact R_X9_seatAnew_47 K ⟨rfl, ⟨h60, fun z => absurd z (hok.2.2 n0), fun _ => ⟨h59, rfl⟩⟩, Eqx.rf.pS (by simp) _⟩
  · have n0 : ¬ n = 0 := fun z => q0 (by rw [h66, z]; rfl)
    have l0 : la = 0 := by
      rw [hla] at q1
      exact (nI_eq (b := 0) (by omega) (by omega)).mp q1
    have e : seatS np la set yy oc n last = (2 ^ n - 1, last) := by
      unfold seatS
      rw [if_neg n0, if_pos l0]
    rw [e] at hok ⊢
    have e2 : 1 ≤ 2 ^ n := Nat.one_le_two_pow
    refine ⟨rfl, ⟨h60, fun z => absurd z (hok.2.2 n0), fun _ => ⟨h59, ?_⟩⟩, Eqx.rf.pS (by simp) _⟩
    show ((1 : Int32) <<< (σ.1 2266 &&& 31)) - 1 = nI (2 ^ n - 1)
    rw [h66, sh1 n (by omega), show (1 : Int32) = nI 1 from rfl, pk_sub e2]
  · have n0 : n = 0 := by
      rw [h66] at q0
      exact (nI_eq (b := 0) (by omega) (by omega)).mp q0
    have e : seatS np la set yy oc n last = (0, last) := by
      unfold seatS
      rw [if_pos n0]
    rw [e]
    exact ⟨rfl, ⟨h60, fun _ => rfl, fun z => absurd rfl z⟩, Eqx.rf.pS (by simp) _⟩
/-- what a step gives, is of the people -/
theorem stepS_ok {np me la : Nat} {kd : Nat → Nat} {w fr : Nat → Bool} {m : Nat × Nat} (h1 : 1 ≤ np) (hnp : np ≤ 8) (hs : m.1 < 2 ^ np) (hl : m.2 < np) : (stepS np me la kd w fr m).2.2.2.1 < 2 ^ np ∧ (stepS np me la kd w fr m).2.2.2.2 < np ∧ (stepS np me la kd w fr m).1 < 2 ^ np ∧ (stepS np me la kd w fr m).2.2.1 ≤ np := by
  have hpos : 0 < 2 ^ np := Nat.two_pow_pos np
  unfold stepS
  by_cases h : m.1 = 0
  · rw [if_pos h]
    exact ⟨by show 2 ^ np - 1 < _; omega, hl, hpos, Nat.le_refl _⟩
  · rw [if_neg h]
    obtain ⟨b1, b2, b3, b4⟩ := pollS_ok kd w fr m.1 np
    have := seatS_ok (la := la) (oc := ocS (pollS kd w fr m.1 np).2.1 (pollS kd w fr m.1 np).2.2) h1 hnp hs b4 (seatsS_le me np (pollS kd w fr m.1 np).2.1 (pollS kd w fr m.1 np).2.2) hl
    exact ⟨this.1, this.2.1, b1, seatsS_le _ _ _ _⟩
/-- the model's goOn -/
theorem m_goOn {ω : WT} {l : Launch} {d me la mt fa to : Nat} {m : Nat × Nat} {t : Tn} {σ : St} (hWf : Wf ω) (hd : 3 ≤ d) (hT : TM t σ) (hO : TO t) (h2 : 2 ≤ tnp t) (hM : MM m σ) (hs : m.1 < 2 ^ tnp t) (hl : m.2 < tnp t) (hme : σ.1 2261 = nI me) (hme3 : me ≤ 3) (hla : σ.1 2262 = nI la) (hla2 : la ≤ 2) (hmt : mt < tnm t) (hfa : fa < 256) (hto : to < 256) :
    Sp ω l yX9_goOn cX9_goOn 4 none d [.ref (ω.2.2.1 35), .int (nI mt), .int (nI fa), .int (nI to)] σ
      (fun v σ' => v = none ∧ MM (stepS (tnp t) me la (tkd t) (tellW t mt fa to) fa.testBit m).2.2.2 σ' ∧ σ'.1 2263 = nI m.1 ∧ σ'.1 2264 = nI (stepS (tnp t) me la (tkd t) (tellW t mt fa to) fa.testBit m).1 ∧ σ'.1 2265 = (stepS (tnp t) me la (tkd t) (tellW t mt fa to) fa.testBit m).2.1 ∧ σ'.1 2266 = nI (stepS (tnp t) me la (tkd t) (tellW t mt fa to) fa.testBit m).2.2.1 ∧ Eqx [2258, 2259, 2260, 2263, 2264, 2265, 2266] [] σ σ') := by
  have hnp := hO.1
  have hp := hT.1
  have hp8 := p2_le8 hnp
  obtain ⟨set, last⟩ := m
  obtain ⟨hm1, hm2, hm3⟩ := hM
  refine Sp.of (by decide) (Nat.le_of_ble_eq_true rfl) hWf (fun κ K => R_X9_goOn_0 K (by omega) (fun q0 => ?_) (fun q0 => ?_))
  · have s0 : ¬ set = 0 := fun z => by
      rw [hm2 z] at q0
      exact absurd q0 (by decide)
    obtain ⟨h59, h58⟩ := hm3 s0
    refine C_X9_goOn_18 K (by omega) (m_poll hWf (by omega) hT hO h58 (by show set < 256; have : set < 2 ^ tnp t := hs; omega) hme hme3 hmt hfa hto) (go_V ?_)
    obtain ⟨b1, b2, b3, b4⟩ := pollS_ok (tkd t) (tellW t mt fa to) fa.testBit set (tnp t)
    have hstep : stepS (tnp t) me la (tkd t) (tellW t mt fa to) fa.testBit (set, last) = ((pollS (tkd t) (tellW t mt fa to) fa.testBit set (tnp t)).1, ocS (pollS (tkd t) (tellW t mt fa to) fa.testBit set (tnp t)).2.1 (pollS (tkd t) (tellW t mt fa to) fa.testBit set (tnp t)).2.2, seatsS me (tnp t) (pollS (tkd t) (tellW t mt fa to) fa.testBit set (tnp t)).2.1 (pollS (tkd t) (tellW t mt fa to) fa.testBit set (tnp t)).2.2, seatS (tnp t) la set (pollS (tkd t) (tellW t mt fa to) fa.testBit set (tnp t)).1 (ocS (pollS (tkd t) (tellW t mt fa to) fa.testBit set (tnp t)).2.1 (pollS (tkd t) (tellW t mt fa to) fa.testBit set (tnp t)).2.2) (seatsS me (tnp t) (pollS (tkd t) (tellW t mt fa to) fa.testBit set (tnp t)).2.1 (pollS (tkd t) (tellW t mt fa to) fa.testBit set (tnp t)).2.2) last) := by
      simp only [stepS, if_neg s0]
    rw [hstep] at K
    refine R_X9_goOn_21 K ?_
    refine C_X9_goOn_22 K (by omega) (m_seatAnew (set := set) (n := seatsS me (tnp t) (pollS (tkd t) (tellW t mt fa to) fa.testBit set (tnp t)).2.1 (pollS (tkd t) (tellW t mt fa to) fa.testBit set (tnp t)).2.2) (yy := (pollS (tkd t) (tellW t mt fa to) fa.testBit set (tnp t)).1) (oc := ocS (pollS (tkd t) (tellW t mt fa to) fa.testBit set (tnp t)).2.1 (pollS (tkd t) (tellW t mt fa to) fa.testBit set (tnp t)).2.2) (last := last) (np := tnp t) (la := la) hWf (by omega) (by omega) hp hnp hla hla2 rfl rfl rfl rfl hm1 h59 hs b4 (seatsS_le _ _ _ _) hl) (fun v σ' h => ?_)
    obtain ⟨rfl, hMM, hE⟩ := h
    refine R_X9_goOn_25 K ⟨rfl, hMM, ?_, ?_, ?_, ?_, ?_⟩
    · rw [hE.1 2263 (by decide)]; rfl
    · rw [hE.1 2264 (by decide)]; rfl
    · rw [hE.1 2265 (by decide)]; rfl
    · rw [hE.1 2266 (by decide)]; rfl
    · exact ((((Eqx.rf.pS (by simp) _).pS (by simp) _).pS (by simp) _).pS (by simp) _).tr (hE.mono (by decide) (by decide))
  · have s0 : set = 0 := Classical.byContradiction fun z => q0 (hm3 z).1
    have hstep : stepS (tnp t) me la (tkd t) (tellW t mt fa to) fa.testBit (set, last) = (0, -6, tnp t, 2 ^ tnp t - 1, last) := by
      simp [stepS, s0]
    have e2 : 2 ^ 1 ≤ 2 ^ tnp t := Nat.pow_le_pow_right (by omega) (by omega)
    rw [hstep, hp]
    refine ⟨rfl, ⟨hm1, fun z => absurd z (by show 2 ^ tnp t - 1 ≠ 0; omega), fun _ => ⟨rfl, ?_⟩⟩, by rw [s0]; rfl, rfl, rfl, rfl, (((((Eqx.rf.pS (by simp) _).pS (by simp) _).pS (by simp) _).pS (by simp) _).pS (by simp) _).pS (by simp) _⟩
    show ((1 : Int32) <<< (nI (tnp t) &&& 31)) - 1 = nI (2 ^ tnp t - 1)
    rw [sh1 _ (by omega), show (1 : Int32) = nI 1 from rfl, pk_sub (by omega)]
