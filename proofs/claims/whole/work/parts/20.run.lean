/-! ===== runs: Course.go, goRun; where a matter stands on the agenda ===== -/
theorem pollS_cong {kd : Nat → Nat} {w w' fr fr' : Nat → Bool} {set : Nat} : ∀ {n : Nat}, (∀ x, x < n → w x = w' x) → (∀ x, x < n → fr x = fr' x) → pollS kd w fr set n = pollS kd w' fr' set n
  | 0, _, _ => rfl
  | n + 1, h, h2 => by
    have ih := pollS_cong (kd := kd) (set := set) (fun x hx => h x (Nat.lt_succ_of_lt hx)) (fun x hx => h2 x (Nat.lt_succ_of_lt hx))
    rw [pollS, pollS, ih]
    have e : ∀ a b, sayS kd w fr n a b = sayS kd w' fr' n a b := fun a b => by
      unfold sayS
      rw [h n (by omega), h2 n (by omega)]
    rw [e]
theorem stepS_cong {np me la : Nat} {kd : Nat → Nat} {w w' fr fr' : Nat → Bool} {m : Nat × Nat} (h : ∀ x, x < np → w x = w' x) (h2 : ∀ x, x < np → fr x = fr' x) : stepS np me la kd w fr m = stepS np me la kd w' fr' m := by
  unfold stepS
  rw [pollS_cong h h2]
/-- behind q matters of a row: who sits, who got the last seat -/
def mvS (t : Tn) (me la : Nat) (W : Nat → Nat → Bool) (m0 : Nat × Nat) : Nat → Nat × Nat
  | 0 => m0
  | q + 1 => (stepS (tnp t) me la (tkd t) (W q) (fun _ => false) (mvS t me la W m0 q)).2.2.2
/-- the q-th vote -/
def vtS (t : Tn) (me la : Nat) (W : Nat → Nat → Bool) (m0 : Nat × Nat) (q : Nat) : Nat × Int32 × Nat × Nat × Nat := stepS (tnp t) me la (tkd t) (W q) (fun _ => false) (mvS t me la W m0 q)
theorem mvS_ok {t : Tn} {me la : Nat} {W : Nat → Nat → Bool} {m0 : Nat × Nat} (h1 : 1 ≤ tnp t) (hnp : tnp t ≤ 8) (hs : m0.1 < 2 ^ tnp t) (hl : m0.2 < tnp t) : ∀ q, (mvS t me la W m0 q).1 < 2 ^ tnp t ∧ (mvS t me la W m0 q).2 < tnp t
  | 0 => ⟨hs, hl⟩
  | q + 1 => by
    obtain ⟨a, b⟩ := mvS_ok (me := me) (la := la) (W := W) h1 hnp hs hl q
    have := stepS_ok (me := me) (la := la) (kd := tkd t) (w := W q) (fr := fun _ => false) h1 hnp a b
    exact ⟨this.1, this.2.1⟩
def RecC (t : Tn) (me la : Nat) (W : Nat → Nat → Bool) (m0 : Nat × Nat) (n : Nat) (σ : St) : Prop := ∀ q, q < n → σ.2.1 16 q = nI (mvS t me la W m0 q).1 ∧ σ.2.1 17 q = nI (vtS t me la W m0 q).1 ∧ σ.2.1 18 q = (vtS t me la W m0 q).2.1 ∧ σ.2.1 19 q = nI (vtS t me la W m0 q).2.2.1
def RecM (t : Tn) (me la : Nat) (W : Nat → Nat → Bool) (m0 : Nat × Nat) (n : Nat) (σ : St) : Prop := ∀ q, q < n → σ.2.1 44 q = nI (mvS t me la W m0 q).1 ∧ σ.2.1 45 q = nI (vtS t me la W m0 q).1 ∧ σ.2.1 46 q = (vtS t me la W m0 q).2.1 ∧ σ.2.1 47 q = nI (vtS t me la W m0 q).2.2.1
theorem up_lt {f : Nat → Int32} {q p : Nat} {v : Int32} (h : p < q) : upd f q v p = f p := pk_un (by omega)
theorem zero_tb (x : Nat) : (0 : Nat).testBit x = false := Nat.zero_testBit x
theorem xor_bs {p : Nat → Bool} {n tu : Nat} (ht : tu < 2 ^ n) : bs p n ^^^ tu = bs (fun x => p x ^^ tu.testBit x) n := by
  apply Nat.eq_of_testBit_eq
  intro i
  rw [Nat.testBit_xor, bs_bit, bs_bit]
  by_cases h : i < n
  · simp [h]
  · have e : tu.testBit i = false := Nat.testBit_lt_two_pow (Nat.lt_of_lt_of_le ht (Nat.pow_le_pow_right (by omega) (by omega)))
    simp [h, e]
abbrev goW (t : Tn) (tu : Nat) : Nat → Nat → Bool := fun q x => tws t x (tag t q) ^^ tu.testBit x
theorem go_loop {ω : WT} {κ : KT} {l : Launch} {d me la tu : Nat} {m0 : Nat × Nat} {t : Tn} {σ : St} (hWf : Wf ω) (hd : 4 ≤ d) (hT : TC t σ) (hO : TO t) (h2 : 2 ≤ tnp t) (hs : m0.1 < 2 ^ tnp t) (hl : m0.2 < tnp t) (hme : σ.1 897 = nI me) (hme3 : me ≤ 3) (hla : σ.1 898 = nI la) (hla2 : la ≤ 2) (htu : tu < 2 ^ tnp t)
    (K : Cm ω κ l yX0_go cX0_go 5 d (some .int) (fun v σ' => v = some (.int (nI ((mvS t me la (goW t tu) m0 (tit t)).2 * 256 + (mvS t me la (goW t tu) m0 (tit t)).1))) ∧ RecC t me la (goW t tu) m0 (tit t) σ' ∧ Eqx [899, 900, 901] [16, 17, 18, 19] σ σ')) :
    ∀ j q σq, q + j = tit t → RecC t me la (goW t tu) m0 q σq → Eqx [899, 900, 901] [16, 17, 18, 19] σ σq → V ω κ 5 [(0, .ref (ω.2.2.1 15)), (2, .int (nI tu)), (3, .int (nI ((mvS t me la (goW t tu) m0 q).2 * 256 + (mvS t me la (goW t tu) m0 q).1))), (4, .int (nI q))] [] σq
  | 0, q, σq, h, hR, hE => by
    obtain rfl : q = tit t := by omega
    have hit := hO.2.2.2.2.1
    have hTq : TC t σq := hT.keep hE (by decide) (by decide)
    have hle : σq.1 644 ≤ nI (tit t) := by rw [hTq.2.2.2.2.1]; exact nI_le (Nat.le_refl _) (by omega)
    exact R_X0_go_5 K (by omega) (fun _ => ⟨rfl, hR, hE⟩) (fun h => absurd hle h) (fun h => absurd hle h) (fun h => absurd hle h) (fun h => absurd hle h)
  | j + 1, q, σq, h, hR, hE => by
    have hit := hO.2.2.2.2.1
    have hnp := hO.1
    have hnm := hO.2.1
    have hp8 := p2_le8 hnp
    have hTq : TC t σq := hT.keep hE (by decide) (by decide)
    have hge : ¬ σq.1 644 ≤ nI q := by
      rw [hTq.2.2.2.2.1]
      exact fun z => absurd ((nI_leI (by omega) (by omega)).mp z) (by omega)
    have hin : vp_in (nI q) 6 := vp_in_nI (by omega) (by omega)
    have hag : tag t q < tnm t := hO.2.2.2.2.2.2.1 q (by omega)
    have hcl : (nI q).toNatClampNeg = q := nI_clamp (by omega)
    have h13 : σq.2.1 13 (nI q).toNatClampNeg = nI (tag t q) := by rw [hcl]; exact hTq.2.2.2.2.2.2.2.2.2 q (by omega)
    refine R_X0_go_5 K (by omega) (fun h2 => absurd h2 hge) (fun _ => hin) (fun _ => hin) (fun _ => by rw [h13]; exact vp_in_nI (by omega) (by omega)) (fun _ => ?_)
    obtain ⟨v1, v2⟩ := mvS_ok (t := t) (me := me) (la := la) (W := goW t tu) (m0 := m0) (by omega) hnp hs hl q
    have e255 : nI ((mvS t me la (goW t tu) m0 q).2 * 256 + (mvS t me la (goW t tu) m0 q).1) &&& 255 = nI (mvS t me la (goW t tu) m0 q).1 := by
      rw [show (255 : Int32) = nI (2 ^ 8 - 1) from rfl, fa_mask]
      congr 1
      omega
    have h12 : σq.2.1 12 (nI (tag t q)).toNatClampNeg = nI (bs (fun x => tws t x (tag t q)) (tnp t)) := by rw [nI_clamp (by omega)]; exact hTq.2.2.2.2.2.2.2.2.1 _ hag
    rw [h13, h12, fb_xorI, xor_bs htu, e255, hcl, show (0 : Int32) = nI 0 from rfl]
    have hE1 : Eqx [899, 900, 901] [16, 17, 18, 19] σ (pA σq 16 q (nI (mvS t me la (goW t tu) m0 q).1)) := hE.pA (by simp) _ _
    refine C_X0_go_54 K (by omega) (m_step hWf (by omega) (hT.keep hE1 (by decide) (by decide)) hO (by rw [hE1.1 897 (by decide)]; exact hme) hme3 (by rw [hE1.1 898 (by decide)]; exact hla) hla2 v1 v2) (go_I ?_)
    have hstep : stepS (tnp t) me la (tkd t) (bs (fun x => tws t x (tag t q) ^^ tu.testBit x) (tnp t)).testBit (0 : Nat).testBit ((mvS t me la (goW t tu) m0 q).1, (mvS t me la (goW t tu) m0 q).2) = vtS t me la (goW t tu) m0 q := by
      unfold vtS
      refine stepS_cong (fun x hx => ?_) (fun x _ => zero_tb x)
      rw [bs_bit]
      simp [hx, goW]
    rw [hstep]
    refine R_X0_go_57 K hin hin hin ?_
    rw [nI_1, hcl]
    refine go_loop hWf hd hT hO h2 hs hl hme hme3 hla hla2 htu K j (q + 1) _ (by omega) ?_ ((((((hE1.pS (by simp) _).pS (by simp) _).pS (by simp) _).pA (by simp) _ _).pA (by simp) _ _).pA (by simp) _ _)
    intro p hp
    by_cases e : p = q
    · subst e
      exact ⟨pk_us, pk_us, pk_us, pk_us⟩
    · obtain ⟨r1, r2, r3, r4⟩ := hR p (by omega)
      exact ⟨(up_lt (by omega)).trans r1, (up_lt (by omega)).trans r2, (up_lt (by omega)).trans r3, (up_lt (by omega)).trans r4⟩
theorem m_go {ω : WT} {l : Launch} {d me la tu : Nat} {m0 : Nat × Nat} {t : Tn} {σ : St} (hWf : Wf ω) (hd : 4 ≤ d) (hT : TC t σ) (hO : TO t) (h2 : 2 ≤ tnp t) (hs : m0.1 < 2 ^ tnp t) (hl : m0.2 < tnp t) (hme : σ.1 897 = nI me) (hme3 : me ≤ 3) (hla : σ.1 898 = nI la) (hla2 : la ≤ 2) (htu : tu < 2 ^ tnp t) :
    Sp ω l yX0_go cX0_go 5 (some .int) d [.ref (ω.2.2.1 15), .int (nI (m0.2 * 256 + m0.1)), .int (nI tu)] σ (fun v σ' => v = some (.int (nI ((mvS t me la (goW t tu) m0 (tit t)).2 * 256 + (mvS t me la (goW t tu) m0 (tit t)).1))) ∧ RecC t me la (goW t tu) m0 (tit t) σ' ∧ Eqx [899, 900, 901] [16, 17, 18, 19] σ σ') :=
  Sp.of (by decide) (Nat.le_of_ble_eq_true rfl) hWf (fun κ K => R_X0_go_0 K (go_loop hWf hd hT hO h2 hs hl hme hme3 hla hla2 htu K (tit t) 0 σ (by omega) (fun q hq => absurd hq (by omega)) Eqx.rf))
theorem MM.keep {m : Nat × Nat} {σ σ' : St} {ks as : List Nat} (h : MM m σ) (e : Eqx ks as σ σ') (hk : ∀ k ∈ [2258, 2259, 2260], k ∉ ks) : MM m σ' := by
  obtain ⟨h1, h2, h3⟩ := h
  refine ⟨by rw [e.1 _ (hk _ (by simp))]; exact h1, fun z => by rw [e.1 _ (hk _ (by simp))]; exact h2 z, fun z => ?_⟩
  rw [e.1 2259 (hk _ (by simp)), e.1 2258 (hk _ (by simp))]
  exact h3 z
abbrev kRun : List Nat := [2258, 2259, 2260, 2263, 2264, 2265, 2266]
theorem goRun_loop {ω : WT} {κ : KT} {l : Launch} {d me la n k : Nat} {row : Nat → Nat} {m0 : Nat × Nat} {t : Tn} {σ : St} (hk : shpA k = some (0, 6)) (hk4 : k ∉ [44, 45, 46, 47]) (hn : n ≤ 6) (hrow : ∀ q, q < n → σ.2.1 k q = nI (row q) ∧ row q < tnm t) (hWf : Wf ω) (hd : 4 ≤ d) (hT : TM t σ) (hO : TO t) (h2 : 2 ≤ tnp t) (hs : m0.1 < 2 ^ tnp t) (hl : m0.2 < tnp t) (hme : σ.1 2261 = nI me) (hme3 : me ≤ 3) (hla : σ.1 2262 = nI la) (hla2 : la ≤ 2)
    (K : Cm ω κ l yX9_goRun cX9_goRun 4 d none (fun v σ' => v = none ∧ MM (mvS t me la (fun q x => tws t x (row q)) m0 n) σ' ∧ RecM t me la (fun q x => tws t x (row q)) m0 n σ' ∧ Eqx kRun [44, 45, 46, 47] σ σ')) :
    ∀ j q σq, q + j = n → MM (mvS t me la (fun q x => tws t x (row q)) m0 q) σq → RecM t me la (fun q x => tws t x (row q)) m0 q σq → Eqx kRun [44, 45, 46, 47] σ σq → V ω κ 2 [(0, .ref (ω.2.2.1 35)), (1, .ref (ω.2.2.1 k)), (2, .int (nI n)), (3, .int (nI q))] [] σq
  | 0, q, σq, h, hM, hR, hE => by
    obtain rfl : q = n := by omega
    have hle : nI q ≤ nI q := nI_le (Nat.le_refl _) (by omega)
    exact R_X9_goRun_2 hk K (fun _ => ⟨rfl, hM, hR, hE⟩) (fun h => absurd hle h) (fun h => absurd hle h)
  | j + 1, q, σq, h, hM, hR, hE => by
    have hnp := hO.1
    have hnm := hO.2.1
    have hp8 := p2_le8 hnp
    have hTq : TM t σq := hT.keep hE (by decide) (by decide)
    have hge : ¬ nI n ≤ nI q := fun z => absurd ((nI_leI (by omega) (by omega)).mp z) (by omega)
    have hin : vp_in (nI q) 6 := vp_in_nI (by omega) (by omega)
    obtain ⟨hr1, hr2⟩ := hrow q (by omega)
    have hcl : (nI q).toNatClampNeg = q := nI_clamp (by omega)
    have hrq : σq.2.1 k (nI q).toNatClampNeg = nI (row q) := by rw [hcl, hE.2.1 k hk4]; exact hr1
    refine R_X9_goRun_2 hk K (fun h2 => absurd h2 hge) (fun _ => hin) (fun _ => ?_)
    obtain ⟨v1, v2⟩ := mvS_ok (t := t) (me := me) (la := la) (W := fun q x => tws t x (row q)) (m0 := m0) (by omega) hnp hs hl q
    rw [hrq, show (0 : Int32) = nI 0 from rfl]
    refine C_X9_goRun_13 hk K (by omega) (m_goOn hWf (by omega) hTq hO h2 hM v1 v2 (by rw [hE.1 2261 (by decide)]; exact hme) hme3 (by rw [hE.1 2262 (by decide)]; exact hla) hla2 hr2 (by omega) (by omega)) (fun v σ' hp => ?_)
    obtain ⟨rfl, hM', p63, p64, p65, p66, hE'⟩ := hp
    have hstep : stepS (tnp t) me la (tkd t) (tellW t (row q) 0 0) (0 : Nat).testBit (mvS t me la (fun q x => tws t x (row q)) m0 q) = vtS t me la (fun q x => tws t x (row q)) m0 q := by
      unfold vtS
      refine stepS_cong (fun x hx => ?_) (fun x _ => zero_tb x)
      simp [tellW]
    rw [hstep] at hM' p64 p65 p66
    refine R_X9_goRun_16 hk K hin hin hin hin ?_
    rw [nI_1, hcl, p63, p64, p65, p66]
    have hE2 : Eqx kRun [44, 45, 46, 47] σ σ' := hE.tr (hE'.mono (by decide) (by decide))
    have hE3 : Eqx [] [44, 45, 46, 47] σ' (pA (pA (pA (pA σ' 44 q (nI (mvS t me la (fun q x => tws t x (row q)) m0 q).1)) 45 q (nI (vtS t me la (fun q x => tws t x (row q)) m0 q).1)) 46 q (vtS t me la (fun q x => tws t x (row q)) m0 q).2.1) 47 q (nI (vtS t me la (fun q x => tws t x (row q)) m0 q).2.2.1)) := (((Eqx.rf.pA (by simp) _ _).pA (by simp) _ _).pA (by simp) _ _).pA (by simp) _ _
    refine goRun_loop hk hk4 hn hrow hWf hd hT hO h2 hs hl hme hme3 hla hla2 K j (q + 1) _ (by omega) (hM'.keep hE3 (by decide)) ?_ (hE2.tr (hE3.mono (by decide) (by decide)))
    intro p hp
    by_cases e : p = q
    · subst e
      exact ⟨pk_us, pk_us, pk_us, pk_us⟩
    · obtain ⟨r1, r2, r3, r4⟩ := hR p (by omega)
      refine ⟨(up_lt (by omega)).trans ?_, (up_lt (by omega)).trans ?_, (up_lt (by omega)).trans ?_, (up_lt (by omega)).trans ?_⟩
      · rw [hE'.2.1 44 (by decide)]; exact r1
      · show σ'.2.1 45 p = _
        rw [hE'.2.1 45 (by decide)]; exact r2
      · show σ'.2.1 46 p = _
        rw [hE'.2.1 46 (by decide)]; exact r3
      · show σ'.2.1 47 p = _
        rw [hE'.2.1 47 (by decide)]; exact r4
theorem m_goRun {ω : WT} {l : Launch} {d me la n k : Nat} {row : Nat → Nat} {m0 : Nat × Nat} {t : Tn} {σ : St} (hk : shpA k = some (0, 6)) (hk4 : k ∉ [44, 45, 46, 47]) (hn : n ≤ 6) (hrow : ∀ q, q < n → σ.2.1 k q = nI (row q) ∧ row q < tnm t) (hWf : Wf ω) (hd : 4 ≤ d) (hT : TM t σ) (hO : TO t) (h2 : 2 ≤ tnp t) (hM : MM m0 σ) (hs : m0.1 < 2 ^ tnp t) (hl : m0.2 < tnp t) (hme : σ.1 2261 = nI me) (hme3 : me ≤ 3) (hla : σ.1 2262 = nI la) (hla2 : la ≤ 2) :
    Sp ω l yX9_goRun cX9_goRun 4 none d [.ref (ω.2.2.1 35), .ref (ω.2.2.1 k), .int (nI n)] σ (fun v σ' => v = none ∧ MM (mvS t me la (fun q x => tws t x (row q)) m0 n) σ' ∧ RecM t me la (fun q x => tws t x (row q)) m0 n σ' ∧ Eqx kRun [44, 45, 46, 47] σ σ') :=
  Sp.of (by decide) (Nat.le_of_ble_eq_true rfl) hWf (fun κ K => R_X9_goRun_0 hk K (goRun_loop hk hk4 hn hrow hWf hd hT hO h2 hs hl hme hme3 hla hla2 K n 0 σ (by omega) hM (fun q hq => absurd hq (by omega)) Eqx.rf))
/-- all sit at first, the last one by number got the last seat -/
abbrev op (t : Tn) : Nat × Nat := (2 ^ tnp t - 1, tnp t - 1)
theorem op_ok {t : Tn} (h2 : 2 ≤ tnp t) : (op t).1 < 2 ^ tnp t ∧ (op t).2 < tnp t ∧ (op t).1 ≠ 0 := by
  have : 2 ^ 1 ≤ 2 ^ tnp t := Nat.pow_le_pow_right (by omega) (by omega)
  exact ⟨by show 2 ^ tnp t - 1 < _; omega, by show tnp t - 1 < _; omega, by show 2 ^ tnp t - 1 ≠ 0; omega⟩
theorem nI_all {n : Nat} (h : n ≤ 8) : ((1 : Int32) <<< (nI n &&& 31)) - 1 = nI (2 ^ n - 1) := by
  have : 1 ≤ 2 ^ n := Nat.one_le_two_pow
  rw [sh1 _ (by omega), show (1 : Int32) = nI 1 from rfl, pk_sub (by omega)]
/-- the world of the model behind layHall, by a measure and a law -/
def layM (σ : St) (np me la : Nat) : St := pS (pS (pS (pS (pS σ 2258 (nI (2 ^ np - 1))) 2259 0) 2260 (nI (np - 1))) 2261 (nI me)) 2262 (nI la)
theorem layM_E (σ : St) (np me la : Nat) : Eqx [2258, 2259, 2260, 2261, 2262] [] σ (layM σ np me la) := ((((Eqx.rf.pS (by simp) _).pS (by simp) _).pS (by simp) _).pS (by simp) _).pS (by simp) _
theorem layM_MM {t : Tn} (h2 : 2 ≤ tnp t) (σ : St) (me la : Nat) : MM (op t) (layM σ (tnp t) me la) := ⟨rfl, fun z => absurd z (op_ok h2).2.2, fun _ => ⟨rfl, rfl⟩⟩
abbrev kAll : List Nat := [2258, 2259, 2260, 2261, 2262, 2263, 2264, 2265, 2266]
theorem m_goFirst {ω : WT} {l : Launch} {d : Nat} {t : Tn} {σ : St} (hWf : Wf ω) (hd : 5 ≤ d) (hT : TM t σ) (hO : TO t) (h2 : 2 ≤ tnp t) :
    Sp ω l yX9_goFirst cX9_goFirst 1 none d [.ref (ω.2.2.1 35)] σ (fun v σ' => v = none ∧ MM (mvS t (tme t) (tla t) (fun q x => tws t x (tag t q)) (op t) (tit t)) σ' ∧ RecM t (tme t) (tla t) (fun q x => tws t x (tag t q)) (op t) (tit t) σ' ∧ Eqx kAll [44, 45, 46, 47] σ σ') := by
  refine Sp.of (by decide) (Nat.le_of_ble_eq_true rfl) hWf (fun κ K => R_X9_goFirst_0 K (by omega) ?_)
  have hnp := hO.1
  have e : pS (pS (pS (pS (pS σ 2258 (((1 : Int32) <<< (σ.1 2245 &&& 31)) - 1)) 2259 0) 2260 (σ.1 2245 - 1)) 2261 (σ.1 2249)) 2262 (σ.1 2250) = layM σ (tnp t) (tme t) (tla t) := by
    rw [hT.1, hT.2.2.1, hT.2.2.2.1, nI_all hnp, show (1 : Int32) = nI 1 from rfl, pk_sub (by omega)]
    rfl
  rw [e, hT.2.2.2.2.1]
  have hE := layM_E σ (tnp t) (tme t) (tla t)
  have hT' : TM t (layM σ (tnp t) (tme t) (tla t)) := hT.keep hE (by decide) (by decide)
  have ho := op_ok h2
  refine C_X9_goFirst_13 K (by omega) (m_goRun (row := tag t) rfl (by decide) hO.2.2.2.2.1 (fun q hq => ⟨hT'.2.2.2.2.2.2.2 q hq, hO.2.2.2.2.2.2.1 q hq⟩) hWf (by omega) hT' hO h2 (layM_MM h2 σ _ _) ho.1 ho.2.1 rfl hO.2.2.1 rfl hO.2.2.2.1) (fun v σ' hp => ?_)
  obtain ⟨rfl, p1, p2, p3⟩ := hp
  exact R_X9_goFirst_16 K ⟨rfl, p1, p2, (hE.mono (by decide) (by decide)).tr (p3.mono (by decide) (by decide))⟩
theorem m_runOnce {ω : WT} {l : Launch} {d : Nat} {t : Tn} {σ : St} (hWf : Wf ω) (hd : 5 ≤ d) (hT : TC t σ) (hO : TO t) (h2 : 2 ≤ tnp t) :
    Sp ω l yX8_runOnce cX8_runOnce 1 (some .int) d [.ref (ω.2.2.1 0)] σ (fun v σ' => v = some (.int (nI ((mvS t (tme t) (tla t) (goW t 0) (op t) (tit t)).2 * 256 + (mvS t (tme t) (tla t) (goW t 0) (op t) (tit t)).1))) ∧ RecC t (tme t) (tla t) (goW t 0) (op t) (tit t) σ' ∧ Eqx [897, 898, 899, 900, 901] [16, 17, 18, 19] σ σ' ∧ σ'.1 897 = nI (tme t) ∧ σ'.1 898 = nI (tla t)) := by
  refine Sp.of (by decide) (Nat.le_of_ble_eq_true rfl) hWf (fun κ K => R_X8_runOnce_0 K (by omega) ?_)
  have hnp := hO.1
  have ho := op_ok h2
  have e : (if σ.1 640 - 1 < 0 then (0 : Int32) else σ.1 640 - 1) * 256 + (((1 : Int32) <<< (σ.1 640 &&& 31)) - 1) = nI ((op t).2 * 256 + (op t).1) := by
    rw [hT.1, nI_all hnp, show (1 : Int32) = nI 1 from rfl, pk_sub (by omega), if_neg (nI_pos (by omega)), show (256 : Int32) = nI 256 from rfl, pk_mul, nI_add]
  rw [e, show (0 : Int32) = nI 0 from rfl, hT.2.2.1, hT.2.2.2.1]
  have hE : Eqx [897, 898] [] σ (pS (pS σ 897 (nI (tme t))) 898 (nI (tla t))) := (Eqx.rf.pS (by simp) _).pS (by simp) _
  refine C_X8_runOnce_19 K (by omega) (m_go hWf (by omega) (hT.keep hE (by decide) (by decide)) hO h2 ho.1 ho.2.1 (me := tme t) (la := tla t) rfl hO.2.2.1 rfl hO.2.2.2.1 (Nat.two_pow_pos _)) (fun v σ' hp => ?_)
  obtain ⟨rfl, p1, p2⟩ := hp
  exact R_X8_runOnce_22 K ⟨rfl, p1, (hE.mono (by decide) (by decide)).tr (p2.mono (by decide) (by decide)), by rw [p2.1 897 (by decide)]; rfl, by rw [p2.1 898 (by decide)]; rfl⟩
/-- where a matter stands on a row -/
def plc (ag : Nat → Nat) (m : Nat) : Nat → Option Nat
  | 0 => none
  | n + 1 => match plc ag m n with
    | some q => some q
    | none => if ag n = m then some n else none
theorem plc_up {ag : Nat → Nat} {m n q : Nat} (h : plc ag m n = some q) : ∀ k, plc ag m (n + k) = some q
  | 0 => h
  | k + 1 => by rw [← Nat.add_assoc, plc, plc_up h k]
theorem plc_some {ag : Nat → Nat} {m : Nat} : ∀ {n q : Nat}, plc ag m n = some q → q < n ∧ ag q = m
  | 0, q, h => by cases h
  | n + 1, q, h => by
    rw [plc] at h
    cases e : plc ag m n with
    | some p =>
      rw [e] at h
      cases h
      have := plc_some e
      exact ⟨by omega, this.2⟩
    | none =>
      rw [e] at h
      simp only at h
      split at h
      · cases h
        exact ⟨by omega, by assumption⟩
      · cases h
theorem plc_none {ag : Nat → Nat} {m : Nat} : ∀ {n : Nat}, plc ag m n = none → ∀ q, q < n → ag q ≠ m
  | 0, _, q, hq => absurd hq (by omega)
  | n + 1, h, q, hq => by
    rw [plc] at h
    cases e : plc ag m n with
    | some p => rw [e] at h; cases h
    | none =>
      rw [e] at h
      simp only at h
      split at h
      · cases h
      · by_cases z : q = n
        · subst z; assumption
        · exact plc_none e q (by omega)
def plI (o : Option Nat) (no : Int32) : Int32 := match o with
  | some q => nI q
  | none => no
theorem placeOfC_loop {ω : WT} {κ : KT} {l : Launch} {d m : Nat} {t : Tn} {σ : St} (hT : TC t σ) (hO : TO t) (hm : m < 2 ^ 31) (K : Cm ω κ l yX7_placeOf cX7_placeOf 3 d (some .int) (rI (plI (plc (tag t) m (tit t)) (-1)) σ)) : ∀ j q, q + j = tit t → plc (tag t) m q = none → V ω κ 2 [(0, .ref (ω.2.2.1 10)), (1, .int (nI m)), (2, .int (nI q))] [] σ
  | 0, q, h, hn => by
    obtain rfl : q = tit t := by omega
    have hit := hO.2.2.2.2.1
    have hle : σ.1 644 ≤ nI (tit t) := by rw [hT.2.2.2.2.1]; exact nI_le (Nat.le_refl _) (by omega)
    exact R_X7_placeOf_2 K (fun _ => ⟨by rw [hn]; rfl, rfl⟩) (fun h => absurd hle h) (fun h => absurd hle h) (fun h => absurd hle h)
  | j + 1, q, h, hn => by
    have hit := hO.2.2.2.2.1
    have hag : tag t q < tnm t := hO.2.2.2.2.2.2.1 q (by omega)
    have hnm := hO.2.1
    have hge : ¬ σ.1 644 ≤ nI q := by
      rw [hT.2.2.2.2.1]
      exact fun z => absurd ((nI_leI (by omega) (by omega)).mp z) (by omega)
    have hcl : (nI q).toNatClampNeg = q := nI_clamp (by omega)
    have h13 : σ.2.1 13 (nI q).toNatClampNeg = nI (tag t q) := by rw [hcl]; exact hT.2.2.2.2.2.2.2.2.2 q (by omega)
    refine R_X7_placeOf_2 K (fun h2 => absurd h2 hge) (fun _ => vp_in_nI (by omega) (by omega)) (fun _ hne => ?_) (fun _ he => ?_)
    · rw [h13] at hne
      rw [nI_1]
      refine placeOfC_loop hT hO hm K j (q + 1) (by omega) ?_
      rw [plc, hn]
      exact if_neg (fun z => hne (by rw [z]))
    · rw [h13] at he
      have e : tag t q = m := (nI_eq (by omega) hm).mp he
      have : plc (tag t) m (q + 1) = some q := by rw [plc, hn]; exact if_pos e
      have := plc_up this j
      rw [show q + 1 + j = tit t by omega] at this
      rw [this]
      exact ⟨rfl, rfl⟩
theorem m_placeOfC {ω : WT} {l : Launch} {d m : Nat} {t : Tn} {σ : St} (hWf : Wf ω) (hT : TC t σ) (hO : TO t) (hm : m < 2 ^ 31) : Sp ω l yX7_placeOf cX7_placeOf 3 (some .int) d [.ref (ω.2.2.1 10), .int (nI m)] σ (rI (plI (plc (tag t) m (tit t)) (-1)) σ) :=
  Sp.of (by decide) (Nat.le_of_ble_eq_true rfl) hWf (fun κ K => R_X7_placeOf_0 K (placeOfC_loop hT hO hm K (tit t) 0 (by omega) rfl))
theorem placeOfM_loop {ω : WT} {κ : KT} {l : Launch} {d m : Nat} {t : Tn} {σ : St} (hT : TM t σ) (hO : TO t) (hm : m < 2 ^ 31) (K : Cm ω κ l yX9_placeOf cX9_placeOf 3 d (some .int) (rI (plI (plc (tag t) m (tit t)) (-9)) σ)) : ∀ j q, q + j = tit t → plc (tag t) m q = none → V ω κ 2 [(0, .ref (ω.2.2.1 35)), (1, .int (nI m)), (2, .int (nI q))] [] σ
  | 0, q, h, hn => by
    obtain rfl : q = tit t := by omega
    have hit := hO.2.2.2.2.1
    have hle : σ.1 2251 ≤ nI (tit t) := by rw [hT.2.2.2.2.1]; exact nI_le (Nat.le_refl _) (by omega)
    exact R_X9_placeOf_2 K (fun _ => ⟨by rw [hn]; rfl, rfl⟩) (fun h => absurd hle h) (fun h => absurd hle h) (fun h => absurd hle h)
  | j + 1, q, h, hn => by
    have hit := hO.2.2.2.2.1
    have hag : tag t q < tnm t := hO.2.2.2.2.2.2.1 q (by omega)
    have hnm := hO.2.1
    have hge : ¬ σ.1 2251 ≤ nI q := by
      rw [hT.2.2.2.2.1]
      exact fun z => absurd ((nI_leI (by omega) (by omega)).mp z) (by omega)
    have hcl : (nI q).toNatClampNeg = q := nI_clamp (by omega)
    have h13 : σ.2.1 41 (nI q).toNatClampNeg = nI (tag t q) := by rw [hcl]; exact hT.2.2.2.2.2.2.2 q (by omega)
    refine R_X9_placeOf_2 K (fun h2 => absurd h2 hge) (fun _ => vp_in_nI (by omega) (by omega)) (fun _ hne => ?_) (fun _ he => ?_)
    · rw [h13] at hne
      rw [nI_1]
      refine placeOfM_loop hT hO hm K j (q + 1) (by omega) ?_
      rw [plc, hn]
      exact if_neg (fun z => hne (by rw [z]))
    · rw [h13] at he
      have e : tag t q = m := (nI_eq (by omega) hm).mp he
      have : plc (tag t) m (q + 1) = some q := by rw [plc, hn]; exact if_pos e
      have := plc_up this j
      rw [show q + 1 + j = tit t by omega] at this
      rw [this]
      exact ⟨rfl, rfl⟩
theorem m_placeOfM {ω : WT} {l : Launch} {d m : Nat} {t : Tn} {σ : St} (hWf : Wf ω) (hT : TM t σ) (hO : TO t) (hm : m < 2 ^ 31) : Sp ω l yX9_placeOf cX9_placeOf 3 (some .int) d [.ref (ω.2.2.1 35), .int (nI m)] σ (rI (plI (plc (tag t) m (tit t)) (-9)) σ) :=
  Sp.of (by decide) (Nat.le_of_ble_eq_true rfl) hWf (fun κ K => R_X9_placeOf_0 K (placeOfM_loop hT hO hm K (tit t) 0 (by omega) rfl))
