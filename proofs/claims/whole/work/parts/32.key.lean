/-! ===== key ===== -/
section KEY
variable {ω : WT} {l : Launch} {d : Nat} {a : Ab} {σ : St}
theorem mvS_tn {t t' : Tn} {me la : Nat} {W W' : Nat → Nat → Bool} {m0 : Nat × Nat} (h1 : tnp t' = tnp t) (h2 : tkd t' = tkd t) (h : ∀ q x, x < tnp t → W' q x = W q x) : ∀ q, mvS t' me la W' m0 q = mvS t me la W m0 q
  | 0 => rfl
  | q + 1 => by
    rw [mvS, mvS, mvS_tn h1 h2 h q, h1, h2, stepS_cong (h q) (fun _ _ => rfl)]
theorem vtS_tn {t t' : Tn} {me la : Nat} {W W' : Nat → Nat → Bool} {m0 : Nat × Nat} (h1 : tnp t' = tnp t) (h2 : tkd t' = tkd t) (h : ∀ q x, x < tnp t → W' q x = W q x) (q : Nat) : vtS t' me la W' m0 q = vtS t me la W m0 q := by
  unfold vtS
  rw [mvS_tn h1 h2 h q, h1, h2, stepS_cong (h q) (fun _ _ => rfl)]
def chN (f g : Nat → Int32) : Nat → Nat
  | 0 => 0
  | n + 1 => chN f g n + (if f n = g n then 0 else 1)
theorem chN_le (f g : Nat → Int32) : ∀ n, chN f g n ≤ n
  | 0 => Nat.le_refl _
  | n + 1 => by
    have := chN_le f g n
    rw [chN]
    split <;> omega
theorem chN_cong {f g f' g' : Nat → Int32} : ∀ {n : Nat}, (∀ q, q < n → f q = f' q ∧ g q = g' q) → chN f g n = chN f' g' n
  | 0, _ => rfl
  | n + 1, h => by rw [chN, chN, chN_cong (fun q hq => h q (by omega)), (h n (by omega)).1, (h n (by omega)).2]
theorem changed_loop {κ : KT} {n : Nat} (h44 : σ.1 644 = nI n) (hn : n ≤ 6) (K : Cm ω κ l yX0_countChanged cX0_countChanged 3 d (some .int) (rI (nI (chN (σ.2.1 18) (σ.2.1 20) n)) σ)) : ∀ j q, q + j = n → V ω κ 4 [(0, .ref (ω.2.2.1 15)), (1, .int (nI (chN (σ.2.1 18) (σ.2.1 20) q))), (2, .int (nI q))] [] σ
  | 0, q, h => by
    obtain rfl : q = n := by omega
    have hle : σ.1 644 ≤ nI q := by rw [h44]; exact nI_le (Nat.le_refl _) (by omega)
    exact R_X0_countChanged_4 K (fun _ => ⟨rfl, rfl⟩) (fun z_ => absurd hle z_) (fun z_ => absurd hle z_) (fun z_ => absurd hle z_) (fun z_ => absurd hle z_)
  | j + 1, q, h => by
    have hge : ¬ σ.1 644 ≤ nI q := by
      rw [h44]
      exact fun z => absurd ((nI_leI (by omega) (by omega)).mp z) (by omega)
    have hin : vp_in (nI q) 6 := vp_in_nI (by omega) (by omega)
    have hcl : (nI q).toNatClampNeg = q := nI_clamp (by omega)
    have ih := changed_loop h44 hn K j (q + 1) (by omega)
    rw [chN] at ih
    refine R_X0_countChanged_4 K (fun z_ => absurd z_ hge) (fun _ => hin) (fun _ => hin) (fun _ z_ => ?_) (fun _ z_ => ?_)
    · rw [hcl] at z_
      rw [if_pos z_] at ih
      rw [nI_1]
      exact ih
    · rw [hcl] at z_
      rw [if_neg z_] at ih
      rw [nI_1, nI_1]
      exact ih
theorem m_countChanged {n : Nat} (hWf : Wf ω) (h44 : σ.1 644 = nI n) (hn : n ≤ 6) : Sp ω l yX0_countChanged cX0_countChanged 3 (some .int) d [.ref (ω.2.2.1 15)] σ (rI (nI (chN (σ.2.1 18) (σ.2.1 20) n)) σ) :=
  Sp.of (by decide) (Nat.le_of_ble_eq_true rfl) hWf (fun κ K => R_X0_countChanged_0 K (changed_loop h44 hn K n 0 (by omega)))
/-- how many outcomes change, if one wishes the contrary -/
def chT (t : Tn) (x : Nat) : Nat := chN (fun q => (vtS t (tme t) (tla t) (goW t (2 ^ x)) (op t) q).2.1) (fun q => (vtT t q).2.1) (tit t)
def keyS (t : Tn) : Nat → Nat × Nat
  | 0 => (0, 0)
  | x + 1 => if chT t x ≤ (keyS t x).2 then keyS t x else (x, chT t x)
theorem keyS_le (t : Tn) : ∀ x, (keyS t x).1 ≤ x ∧ (keyS t x).2 ≤ tit t
  | 0 => ⟨Nat.le_refl _, Nat.zero_le _⟩
  | x + 1 => by
    have := keyS_le t x
    rw [keyS]
    split
    · exact ⟨by omega, this.2⟩
    · exact ⟨by show x ≤ _; omega, chN_le _ _ _⟩
def o_key (a : Ab) (w : Int32) : Int32 := match ix w 2 with
  | none => -2
  | some j => if tnp (att a) = 0 then -3 else if j = 0 then nI (keyS (att a) (tnp (att a))).1 else nI (keyS (att a) (tnp (att a))).2
theorem keyC_loop {κ : KT} {w : Nat} {t : Tn} (hWf : Wf ω) (hd : 6 ≤ d) (hT : TC t σ) (hO : TO t) (h2 : 2 ≤ tnp t) (hme : σ.1 897 = nI (tme t)) (hla : σ.1 898 = nI (tla t)) (h20 : ∀ q, q < tit t → σ.2.1 20 q = (vtT t q).2.1) {post : Option Value → St → Prop} (K : Cm ω κ l yX8_key cX8_key 6 d (some .int) post)
    (fin : ∀ σ', Eqx [899, 900, 901] [16, 17, 18, 19] σ σ' → post (some (.int (if nI w = 0 then nI (keyS t (tnp t)).1 else nI (keyS t (tnp t)).2))) σ') :
    ∀ j x σq, x + j = tnp t → Eqx [899, 900, 901] [16, 17, 18, 19] σ σq → V ω κ 44 [(0, .ref (ω.2.2.1 0)), (1, .int (nI w)), (2, .int (nI (keyS t x).1)), (3, .int (nI (keyS t x).2)), (4, .int (nI x))] [] σq
  | 0, x, σq, h, hE => by
    obtain rfl : x = tnp t := by omega
    have hnp := hO.1
    have hTq : TC t σq := hT.keep hE (by decide) (by decide)
    have hle : σq.1 640 ≤ nI (tnp t) := by rw [hTq.1]; exact nI_le (Nat.le_refl _) (by omega)
    exact R_X8_key_44 K (by omega) (fun _ => fin σq hE) (fun z_ => absurd hle z_)
  | j + 1, x, σq, h, hE => by
    have hnp := hO.1
    have hit := hO.2.2.2.2.1
    have hTq : TC t σq := hT.keep hE (by decide) (by decide)
    have hge : ¬ σq.1 640 ≤ nI x := by
      rw [hTq.1]
      exact fun z => absurd ((nI_leI (by omega) (by omega)).mp z) (by omega)
    have ho := op_ok h2
    refine R_X8_key_44 K (by omega) (fun z_ => absurd z_ hge) (fun _ => ?_)
    have e : (if σq.1 640 - 1 < 0 then (0 : Int32) else σq.1 640 - 1) * 256 + (((1 : Int32) <<< (σq.1 640 &&& 31)) - 1) = nI ((op t).2 * 256 + (op t).1) := by
      rw [hTq.1, nI_all hnp, show (1 : Int32) = nI 1 from rfl, pk_sub (by omega), if_neg (nI_pos (by omega)), show (256 : Int32) = nI 256 from rfl, pk_mul, nI_add]
    rw [e, sh1 x (by omega)]
    refine C_X8_key_71 K (by omega) (m_go hWf (by omega) hTq hO h2 ho.1 ho.2.1 (me := tme t) (la := tla t) (by rw [hE.1 897 (by decide)]; exact hme) hO.2.2.1 (by rw [hE.1 898 (by decide)]; exact hla) hO.2.2.2.1 (Nat.pow_lt_pow_right (by omega) (by omega))) (fun v σ' hp => ?_)
    obtain ⟨rfl, p1, p2⟩ := hp
    refine R_X8_key_74 K ?_
    have hE' := hE.tr p2
    have hT' : TC t σ' := hT.keep hE' (by decide) (by decide)
    refine C_X8_key_79 K (by omega) (m_countChanged hWf hT'.2.2.2.2.1 hit) (go_I ?_)
    have ec : chN (σ'.2.1 18) (σ'.2.1 20) (tit t) = chT t x := chN_cong (fun q hq => ⟨(p1 q hq).2.2.1, by rw [hE'.2.1 20 (by decide)]; exact h20 q hq⟩)
    rw [ec]
    have hc : chT t x ≤ tit t := chN_le _ _ _
    have hk := keyS_le t x
    have ih := keyC_loop hWf hd hT hO h2 hme hla h20 K fin j (x + 1) σ' (by omega) hE'
    rw [keyS] at ih
    refine R_X8_key_82 K (fun z_ => ?_) (fun z_ => ?_)
    · have z := (nI_leI (by omega) (by omega)).mp z_
      rw [if_pos z] at ih
      rw [nI_1]
      exact ih
    · have z : ¬ chT t x ≤ (keyS t x).2 := fun q_ => z_ ((nI_leI (by omega) (by omega)).mpr q_)
      rw [if_neg z] at ih
      rw [nI_1]
      exact ih
theorem key_end {j : Nat} (h0 : ¬ tnp (att a) = 0) (hj : j < 2) : o_key a (nI j) = if nI j = 0 then nI (keyS (att a) (tnp (att a))).1 else nI (keyS (att a) (tnp (att a))).2 := by
  unfold o_key
  rw [ix_n hj (by decide)]
  simp only
  rw [if_neg h0]
  by_cases z : j = 0
  · rw [if_pos z, if_pos (by rw [z]; rfl)]
  · have nz : ¬ nI j = 0 := fun q_ => z ((nI_eq (b := 0) (by omega) (by decide)).mp q_)
    rw [if_neg z, if_neg nz]
theorem c_key {w : Int32} (hWf : Wf ω) (hd : 6 ≤ d) (hA : AO a) (hR : RC a σ) : Sp ω l yX8_key cX8_key 6 (some .int) d [.ref (ω.2.2.1 0), .int w] σ (PC (o_key a w) a σ) := by
  refine Sp.of (by decide) (Nat.le_of_ble_eq_true rfl) hWf (fun κ K => ?_)
  have hnp := hA.1.1
  rcases ix_cases w 2 (by decide) with ⟨e, h⟩ | ⟨j, hj, rfl, e⟩
  · have ho : o_key a w = -2 := by simp only [o_key, e]
    rw [ho] at K
    have hno : ¬ w < 0 → ¬ w ≤ 1 := fun z1 z2 => by
      rcases h with h | h
      · exact z1 h
      · have : nI 2 ≤ nI 1 := Int32.le_trans h z2
        exact absurd ((nI_leI (by decide) (by decide)).mp this) (by decide)
    exact R_X8_key_0 K (by omega) (fun _ => PC.at rfl hR EC.rf) (fun z1_ z2_ => absurd z2_ (hno z1_)) (fun z1_ z2_ => absurd z2_ (hno z1_)) (fun _ _ => PC.at rfl hR EC.rf)
  · have hn : ¬ nI j < 0 := nI_pos (by omega)
    have hle : nI j ≤ 1 := (nI_leI (b := 1) (by omega) (by decide)).mpr (by omega)
    refine R_X8_key_0 K (by omega) (fun z_ => absurd z_ hn) (fun _ _ h0 => ?_) (fun _ _ h0 => ?_) (fun _ z_ => absurd hle z_)
    · rw [hR.1.1] at h0
      have h1 := tw1 h0
      have h2 := hA.1.two h1
      rw [key_end h1 hj] at K
      refine C_X8_key_26 K (by omega) (go_runOnce hWf (by omega) hA hR h2) (fun v σ1 hp => ?_)
      obtain ⟨rfl, hrec, hR1, hE1, m1, m2⟩ := hp
      refine R_X8_key_29 K (by omega) (by decide) (by decide) (by decide) (by decide) (by decide) ?_
      have c0 : (0 : Int32).toNatClampNeg = 0 := rfl
      have c6 : (6 : Int32).toNatClampNeg = 6 := rfl
      rw [c0, c6]
      have hE2 : Eqx [] [20] σ1 (pF σ1 20 (va_cpy (σ1.2.1 18) (σ1.2.1 20) 0 0 6)) := Eqx.rf.pF (by simp) _
      have hit := hA.1.2.2.2.2.1
      refine keyC_loop (t := att a) (σ := pF σ1 20 (va_cpy (σ1.2.1 18) (σ1.2.1 20) 0 0 6)) hWf hd (hR1.1.keep hE2 (by decide) (by decide)) hA.1 h2 m1 m2 (fun q hq => ?_) K (fun σ' hE' => ?_) (tnp (att a)) 0 _ (by omega) Eqx.rf
      · show va_cpy (σ1.2.1 18) (σ1.2.1 20) 0 0 6 q = _
        rw [pk_cpy_in (by omega) (by omega), show 0 + (q - 0) = q by omega]
        exact (hrec q hq).2.2.1
      · have hE3 : Eqx [899, 900, 901] [16, 17, 18, 19, 20] σ1 σ' := (hE2.mono (by simp) (by simp)).tr (hE'.mono (fun _ z_ => z_) (by simp))
        exact PC.at rfl (hR1.keep hE3 (by decide) (by decide)) (hE1.tr (EC.of hE3 (by decide) (by decide)))
    · rw [hR.1.1] at h0
      have ho : o_key a (nI j) = -3 := by
        unfold o_key
        rw [e]
        simp only
        rw [if_pos (tw0 (by omega) h0)]
      rw [ho]
      exact PC.at rfl hR EC.rf
/-! the model: one person's wishes turned -/
def flT (t : Tn) (x : Nat) : Tn := (tnp t, tnm t, tme t, tla t, tit t, tkd t, fun y m => if y = x then !tws t y m else tws t y m, tag t)
theorem flT_flT (t : Tn) (x : Nat) : flT (flT t x) x = t := by
  have : (fun y m => if y = x then !tws (flT t x) y m else tws (flT t x) y m) = tws t := by
    funext y m
    show (if y = x then !(if y = x then !tws t y m else tws t y m) else (if y = x then !tws t y m else tws t y m)) = _
    by_cases z : y = x
    · rw [if_pos z, if_pos z, Bool.not_not]
    · rw [if_neg z, if_neg z]
  show (tnp t, tnm t, tme t, tla t, tit t, tkd t, (fun y m => if y = x then !tws (flT t x) y m else tws (flT t x) y m), tag t) = t
  rw [this]
theorem bs_not {p : Nat → Bool} {n : Nat} : bs p n ≤ 2 ^ n - 1 ∧ 2 ^ n - 1 - bs p n = bs (fun i => !p i) n := by
  have hp : 1 ≤ 2 ^ n := Nat.one_le_two_pow
  have := dif (s := 2 ^ n - 1) (y := bs p n) (n := n) (by omega) (fun i hi => by
    rw [bs_bit] at hi
    rw [all_bit]
    exact (Bool.and_eq_true _ _ ▸ hi).1)
  refine ⟨this.1, this.2.trans (bs_cong (fun i hi => ?_))⟩
  rw [all_bit, bs_bit]
  simp [hi]
theorem TM.flip {t : Tn} {x : Nat} (hT : TM t σ) (hnm : tnm t ≤ 6) (hx : x < tnp t) : TM (flT t x) (pA σ 40 x ((((1 : Int32) <<< (σ.1 2246 &&& 31)) - 1) - σ.2.1 40 x)) := by
  obtain ⟨h1, h2, h3, h4, h5, h6, h7, h8⟩ := hT
  refine ⟨h1, h2, h3, h4, h5, h6, fun y hy => ?_, h8⟩
  show upd (σ.2.1 40) x _ y = nI (bs (fun m => if y = x then !tws t y m else tws t y m) (tnm t))
  by_cases z : y = x
  · subst z
    obtain ⟨b1, b2⟩ := bs_not (p := tws t y) (n := tnm t)
    rw [pk_us, h2, nI_all (by omega), h7 y hy, pk_sub b1, b2]
    congr 1
    exact bs_cong (fun i _ => by rw [if_pos rfl])
  · rw [pk_un z, h7 y hy]
    congr 1
    exact bs_cong (fun i _ => by rw [if_neg z])
theorem TO.flip {t : Tn} {x : Nat} (h : TO t) : TO (flT t x) := h
theorem keyM_keep {κ : KT} {w n : Nat} {g : Nat → Int32} (h51 : σ.1 2251 = nI n) (hn : n ≤ 6) (h46 : ∀ q, q < n → σ.2.1 46 q = g q) {post : Option Value → St → Prop} (K : Cm ω κ l yX9_key cX9_key 7 d (some .int) post)
    (fin : ∀ σ', Eqx [] [56] σ σ' → (∀ q, q < n → σ'.2.1 56 q = g q) → V ω κ 61 [(0, .ref (ω.2.2.1 35)), (1, .int (nI w)), (2, .int 0), (3, .int (-1)), (4, .int 0)] [] σ') :
    ∀ j q σq, q + j = n → Eqx [] [56] σ σq → (∀ p, p < q → σq.2.1 56 p = g p) → V ω κ 28 [(0, .ref (ω.2.2.1 35)), (1, .int (nI w)), (2, .int (nI q))] [] σq
  | 0, q, σq, h, hE, h56 => by
    obtain rfl : q = n := by omega
    have hle : σq.1 2251 ≤ nI q := by rw [hE.1 2251 (by decide), h51]; exact nI_le (Nat.le_refl _) (by omega)
    exact R_X9_key_28 K (fun _ => fin σq hE h56) (fun z_ => absurd hle z_) (fun z_ => absurd hle z_) (fun z_ => absurd hle z_)
  | j + 1, q, σq, h, hE, h56 => by
    have hge : ¬ σq.1 2251 ≤ nI q := by
      rw [hE.1 2251 (by decide), h51]
      exact fun z => absurd ((nI_leI (by omega) (by omega)).mp z) (by omega)
    have hin : vp_in (nI q) 6 := vp_in_nI (by omega) (by omega)
    refine R_X9_key_28 K (fun z_ => absurd z_ hge) (fun _ => hin) (fun _ => hin) (fun _ => ?_)
    rw [nI_clamp (by omega), nI_1]
    refine keyM_keep h51 hn h46 K fin j (q + 1) _ (by omega) (hE.pA (by simp) _ _) (fun p hp => ?_)
    show upd (σq.2.1 56) q _ p = _
    by_cases z : p = q
    · subst z
      rw [pk_us, hE.2.1 46 (by decide)]
      exact h46 p (by omega)
    · rw [pk_un z]
      exact h56 p (by omega)
theorem keyM_count {κ : KT} {w n x : Nat} {b m : Int32} (h51 : σ.1 2251 = nI n) (hn : n ≤ 6) {post : Option Value → St → Prop} (K : Cm ω κ l yX9_key cX9_key 7 d (some .int) post)
    (k1 : nI (chN (σ.2.1 46) (σ.2.1 56) n) ≤ m → V ω κ 61 [(0, .ref (ω.2.2.1 35)), (1, .int (nI w)), (2, .int b), (3, .int m), (4, .int (nI (x + 1)))] [] σ)
    (k2 : ¬ nI (chN (σ.2.1 46) (σ.2.1 56) n) ≤ m → V ω κ 61 [(0, .ref (ω.2.2.1 35)), (1, .int (nI w)), (2, .int (nI x)), (3, .int (nI (chN (σ.2.1 46) (σ.2.1 56) n))), (4, .int (nI (x + 1)))] [] σ) :
    ∀ j q, q + j = n → V ω κ 126 [(0, .ref (ω.2.2.1 35)), (1, .int (nI w)), (2, .int b), (3, .int m), (4, .int (nI x)), (5, .int (nI (chN (σ.2.1 46) (σ.2.1 56) q))), (6, .int (nI q))] [] σ
  | 0, q, h => by
    obtain rfl : q = n := by omega
    have hle : σ.1 2251 ≤ nI q := by rw [h51]; exact nI_le (Nat.le_refl _) (by omega)
    exact R_X9_key_126 K (fun _ z_ => by rw [nI_1]; exact k1 z_) (fun _ z_ => by rw [nI_1]; exact k2 z_) (fun z_ => absurd hle z_) (fun z_ => absurd hle z_) (fun z_ => absurd hle z_)
  | j + 1, q, h => by
    have hge : ¬ σ.1 2251 ≤ nI q := by
      rw [h51]
      exact fun z => absurd ((nI_leI (by omega) (by omega)).mp z) (by omega)
    have hin : vp_in (nI q) 6 := vp_in_nI (by omega) (by omega)
    refine R_X9_key_126 K (fun z_ => absurd z_ hge) (fun z_ => absurd z_ hge) (fun _ => hin) (fun _ => hin) (fun _ => ?_)
    rw [nI_clamp (by omega), nI_1]
    have ih := keyM_count h51 hn K k1 k2 j (q + 1) (by omega)
    rw [chN] at ih
    have e : nI (chN (σ.2.1 46) (σ.2.1 56) q) + (if σ.2.1 46 q = σ.2.1 56 q then (0 : Int32) else 1) = nI (chN (σ.2.1 46) (σ.2.1 56) q + if σ.2.1 46 q = σ.2.1 56 q then 0 else 1) := by
      split
      · rw [show (0 : Int32) = nI 0 from rfl, nI_add]
      · rw [nI_1]
    rw [e]
    exact ih
theorem keyM_loop {κ : KT} {w : Nat} (hWf : Wf ω) (hd : 6 ≤ d) (hA : AO a) (h2 : 2 ≤ tnp (att a)) {post : Option Value → St → Prop} (K : Cm ω κ l yX9_key cX9_key 7 d (some .int) post)
    (fin : ∀ σ', RM a σ' → EM σ σ' → post (some (.int (if nI w = 0 then nI (keyS (att a) (tnp (att a))).1 else nI (keyS (att a) (tnp (att a))).2))) σ') :
    ∀ j x σq, x + j = tnp (att a) → RM a σq → EM σ σq → (∀ q, q < tit (att a) → σq.2.1 56 q = (vtT (att a) q).2.1) → V ω κ 61 [(0, .ref (ω.2.2.1 35)), (1, .int (nI w)), (2, .int (nI (keyS (att a) x).1)), (3, .int (if x = 0 then -1 else nI (keyS (att a) x).2)), (4, .int (nI x))] [] σq
  | 0, x, σq, h, hR, hE, h56 => by
    obtain rfl : x = tnp (att a) := by omega
    have hnp := hA.1.1
    have hle : σq.1 2245 ≤ nI (tnp (att a)) := by rw [hR.1.1]; exact nI_le (Nat.le_refl _) (by omega)
    rw [if_neg (by omega)]
    exact R_X9_key_61 K (fun _ => fin σq hR hE) (fun z_ => absurd hle z_) (fun z_ => absurd hle z_) (fun z_ => absurd hle z_)
  | j + 1, x, σq, h, hR, hE, h56 => by
    have hnp := hA.1.1
    have hnm := hA.1.2.1
    have hit := hA.1.2.2.2.2.1
    have hge : ¬ σq.1 2245 ≤ nI x := by
      rw [hR.1.1]
      exact fun z => absurd ((nI_leI (by omega) (by omega)).mp z) (by omega)
    have hin : vp_in (nI x) 8 := vp_in_nI (by omega) (by omega)
    have hcl : (nI x).toNatClampNeg = x := nI_clamp (by omega)
    refine R_X9_key_61 K (fun z_ => absurd z_ hge) (fun _ => hin) (fun _ => hin) (fun _ => ?_)
    rw [hcl]
    have hT1 := hR.1.flip hnm (x := x) (by omega)
    generalize hσ1 : pA σq 40 x ((((1 : Int32) <<< (σq.1 2246 &&& 31)) - 1) - σq.2.1 40 x) = σ1 at *
    have hE1 : Eqx [] [40] σq σ1 := hσ1 ▸ Eqx.rf.pA (by simp) _ _
    refine C_X9_key_94 K (by omega) (m_goFirst hWf (by omega) hT1 hA.1.flip h2) (fun v σ2 hp => ?_)
    obtain ⟨rfl, -, hrec, hE2⟩ := hp
    have hT2 := hT1.keep hE2 (by decide) (by decide)
    refine R_X9_key_97 K hin hin ?_
    rw [hcl]
    have hT3 := hT2.flip hnm (x := x) (show x < tnp (att a) by omega)
    rw [flT_flT] at hT3
    generalize hσ3 : pA σ2 40 x ((((1 : Int32) <<< (σ2.1 2246 &&& 31)) - 1) - σ2.2.1 40 x) = σ3 at *
    have hE3 : Eqx [] [40] σ2 σ3 := hσ3 ▸ Eqx.rf.pA (by simp) _ _
    have hE4 : Eqx kAll [40, 44, 45, 46, 47] σq σ3 := ((hE1.mono (by simp) (by simp)).tr (hE2.mono (by decide) (by decide))).tr (hE3.mono (by simp) (by simp))
    have hR3 : RM a σ3 := by
      have := hR.town (t := att a) hT3 hE4 (by decide) (by decide)
      exact this
    have h46 : ∀ q, q < tit (att a) → σ3.2.1 46 q = (vtS (att a) (tme (att a)) (tla (att a)) (goW (att a) (2 ^ x)) (op (att a)) q).2.1 := fun q hq => by
      rw [hE3.2.1 46 (by decide), (hrec q hq).2.2.1]
      have := vtS_tn (t := att a) (t' := flT (att a) x) (me := tme (att a)) (la := tla (att a)) (m0 := op (att a)) (W := goW (att a) (2 ^ x)) (W' := fun q y => tws (flT (att a) x) y (tag (att a) q)) rfl rfl (fun q y hy => by
        show (if y = x then !tws (att a) y (tag (att a) q) else tws (att a) y (tag (att a) q)) = (tws (att a) y (tag (att a) q) ^^ (2 ^ x).testBit y)
        rw [Nat.testBit_two_pow]
        by_cases z : y = x
        · rw [if_pos z, decide_eq_true z.symm]; simp
        · rw [if_neg z, decide_eq_false (fun q_ => z q_.symm)]; simp) q
      exact congrArg (fun r => r.2.1) this
    have h563 : ∀ q, q < tit (att a) → σ3.2.1 56 q = (vtT (att a) q).2.1 := fun q hq => by
      rw [hE4.2.1 56 (by decide)]
      exact h56 q hq
    have ec : chN (σ3.2.1 46) (σ3.2.1 56) (tit (att a)) = chT (att a) x := chN_cong (fun q hq => ⟨h46 q hq, h563 q hq⟩)
    have hc : chT (att a) x ≤ tit (att a) := chN_le _ _ _
    have hk := keyS_le (att a) x
    have ih := keyM_loop hWf hd hA h2 K fin j (x + 1) σ3 (by omega) hR3 (hE.tr (EM.of hE4 (by decide) (by decide))) h563
    rw [keyS, if_neg (show ¬ x + 1 = 0 by omega)] at ih
    refine keyM_count (x := x) hT3.2.2.2.2.1 hit K (fun z_ => ?_) (fun z_ => ?_) (tit (att a)) 0 (by omega)
    · rw [ec] at z_
      by_cases x0 : x = 0
      · rw [if_pos x0] at z_
        exact absurd (Int32.le_trans (Int32.not_lt.mp (nI_pos (n := chT (att a) x) (by omega))) z_) (by decide)
      · rw [if_neg x0] at z_ ⊢
        have z := (nI_leI (by omega) (by omega)).mp z_
        rw [if_pos z] at ih
        exact ih
    · rw [ec] at z_ ⊢
      by_cases x0 : x = 0
      · subst x0
        by_cases z : chT (att a) 0 ≤ (keyS (att a) 0).2
        · rw [if_pos z] at ih
          have e0 : chT (att a) 0 = (keyS (att a) 0).2 := Nat.le_antisymm z (Nat.zero_le _)
          rw [e0]
          exact ih
        · rw [if_neg z] at ih
          exact ih
      · rw [if_neg x0] at z_
        have z : ¬ chT (att a) x ≤ (keyS (att a) x).2 := fun q_ => z_ ((nI_leI (by omega) (by omega)).mpr q_)
        rw [if_neg z] at ih
        exact ih
theorem d_key {w : Int32} (hWf : Wf ω) (hd : 6 ≤ d) (hA : AO a) (hR : RM a σ) : Sp ω l yX9_key cX9_key 7 (some .int) d [.ref (ω.2.2.1 35), .int w] σ (PM (o_key a w) a σ) := by
  refine Sp.of (by decide) (Nat.le_of_ble_eq_true rfl) hWf (fun κ K => ?_)
  have hnp := hA.1.1
  have hit := hA.1.2.2.2.2.1
  by_cases h4 : (if w < 0 then (0 : Int32) else (if 1 < w then 0 else 1)) = 0
  · have ho : o_key a w = -2 := by simp only [o_key, rgm0 (n := 1) (by decide) h4]
    rw [ho] at K
    exact R_X9_key_0 K (by omega) (fun z_ => absurd h4 z_) (fun z_ => absurd h4 z_) (fun _ => PM.at rfl hR EM.rf)
  · obtain ⟨j, hj, rfl, e⟩ := rgm1 (n := 1) (by decide) h4
    refine R_X9_key_0 K (by omega) (fun _ h0 => ?_) (fun _ h0 => ?_) (fun z_ => absurd z_ h4)
    · rw [hR.1.1] at h0
      have h1 := tw1 h0
      have h2 := hA.1.two h1
      rw [key_end h1 hj] at K
      refine C_X9_key_23 K (by omega) (go_goFirst hWf (by omega) hA hR h2) (fun v σ1 hp => ?_)
      obtain ⟨rfl, -, hrec, hR1, hE1⟩ := hp
      refine R_X9_key_26 K ?_
      refine keyM_keep (σ := σ1) (g := fun q => (vtT (att a) q).2.1) hR1.1.2.2.2.2.1 hit (fun q hq => (hrec q hq).2.2.1) K (fun σ2 hE2 h56 => ?_) (tit (att a)) 0 σ1 (by omega) Eqx.rf (fun p hp => absurd hp (by omega))
      exact keyM_loop (σ := σ) hWf hd hA h2 K (fun σ' hR' hE' => PM.at rfl hR' hE') (tnp (att a)) 0 σ2 (by omega) (hR1.keep hE2 (by decide) (by decide)) (hE1.tr (EM.of hE2 (by decide) (by decide))) h56
    · rw [hR.1.1] at h0
      have ho : o_key a (nI j) = -3 := by
        unfold o_key
        rw [e]
        simp only
        rw [if_pos (tw0 (by omega) h0)]
      rw [ho]
      exact PM.at rfl hR EM.rf
end KEY
