/-! ===== who says yes: sayings, poll; who won sits first: seatWinners ===== -/
theorem ld_0 : ∀ a, a < 9 → ∀ n, n < 9 → ((nI a - nI n = 0) ↔ a = n) := by decide +kernel
theorem ld_le : ∀ a, a < 9 → ∀ n, n < 9 → ((nI a - nI n ≤ 0) ↔ a ≤ n) := by decide +kernel
theorem ld_p : ∀ a, a < 9 → ∀ n, n < 9 → nI a - nI n + 1 = nI (a + 1) - nI n := by decide +kernel
theorem ld_m : ∀ a, a < 9 → ∀ n, n < 9 → nI a - nI n + (-1) = nI a - nI (n + 1) := by decide +kernel
theorem pollS_n (kd : Nat → Nat) (w fr : Nat → Bool) (set x : Nat) : (pollS kd w fr set x).2.1 ≤ x ∧ (pollS kd w fr set x).2.2 ≤ x := by
  obtain ⟨h1, h2, h3, h4⟩ := pollS_ok kd w fr set x
  have := cb_le set x
  omega
theorem nI_bit0t {n k : Nat} (hk : k < 31) (h : ¬ nI n &&& ((1 : Int32) <<< (nI k &&& 31)) = 0) : n.testBit k = true := by
  cases q : n.testBit k
  · exact absurd ((nI_bit0 hk).mpr q) h
  · rfl
/-- sayings -/
theorem sayings_loop {ω : WT} {κ : KT} {l : Launch} {d set wz fz : Nat} {t : Tn} {σ : St} (hT : TC t σ) (hO : TO t) (K : Cm ω κ l yX2_sayings cX2_sayings 10 d (some .int) (rI (nI (pollS (tkd t) wz.testBit fz.testBit set (tnp t)).1) σ)) :
    ∀ j x, x + j = tnp t → V ω κ 22 [(0, .ref (ω.2.2.1 14)), (1, .int (nI set)), (2, .int (nI wz)), (4, .int (nI (bs (fun i => (bs (fun x => tkd t x != 0) (tnp t)).testBit i && !fz.testBit i) (tnp t)))), (5, .int (nI (pollS (tkd t) wz.testBit fz.testBit set x).1)), (6, .int (nI (pollS (tkd t) wz.testBit fz.testBit set x).2.1 - nI (pollS (tkd t) wz.testBit fz.testBit set x).2.2)), (7, .int (nI x))] [] σ
  | 0, x, h => by
    obtain rfl : x = tnp t := by omega
    have hle : σ.1 640 ≤ nI (tnp t) := by rw [hT.1]; exact nI_le (Nat.le_refl _) (by have := hO.1; omega)
    exact R_X2_sayings_22 K (fun _ => ⟨rfl, rfl⟩) (fun h => absurd hle h) (fun h => absurd hle h) (fun h => absurd hle h) (fun h => absurd hle h)
  | j + 1, x, h => by
    have hnp := hO.1
    have ih := sayings_loop hT hO K j (x + 1) (by omega)
    obtain ⟨hn1, hn2⟩ := pollS_n (tkd t) wz.testBit fz.testBit set x
    obtain ⟨ho1, -, -, -⟩ := pollS_ok (tkd t) wz.testBit fz.testBit set x
    generalize ha : (pollS (tkd t) wz.testBit fz.testBit set x).2.1 = a at *
    generalize hb : (pollS (tkd t) wz.testBit fz.testBit set x).2.2 = b at *
    generalize hy : (pollS (tkd t) wz.testBit fz.testBit set x).1 = yy at *
    have hbend : (bs (fun i => (bs (fun x => tkd t x != 0) (tnp t)).testBit i && !fz.testBit i) (tnp t)).testBit x = (tkd t x != 0 && !fz.testBit x) := by
      rw [bs_bit, bs_bit]
      have : x < tnp t := by omega
      simp [this]
    have hcon : (bs (fun x => tkd t x == 2) (tnp t)).testBit x = (tkd t x == 2) := by
      rw [bs_bit]
      have : x < tnp t := by omega
      simp [this]
    have fin : ∀ (v : Int32) (sy : Bool), v = (if sy then 1 else 0) → set.testBit x = true → sayS (tkd t) wz.testBit fz.testBit x a b = sy → V ω κ 112 [(0, .ref (ω.2.2.1 14)), (1, .int (nI set)), (2, .int (nI wz)), (4, .int (nI (bs (fun i => (bs (fun x => tkd t x != 0) (tnp t)).testBit i && !fz.testBit i) (tnp t)))), (5, .int (nI yy)), (6, .int (nI a - nI b)), (7, .int (nI x)), (8, .int ((1 : Int32) <<< (nI x &&& 31))), (9, .int v)] [] σ := by
      intro v sy hv hs hsy
      refine R_X2_sayings_112 K ?_
      rw [pollS, if_pos hs, ha, hb, hsy, hy] at ih
      rw [sh1 x (by omega), nI_1]
      cases sy
      · rw [if_neg (by decide)] at ih
        have hv : v = 0 := hv
        rw [hv, if_pos rfl, if_pos rfl, show nI yy ||| 0 = nI yy from by rw [show (0 : Int32) = nI 0 from rfl, fa_or, Nat.or_zero], ld_m a (by omega) b (by omega)]
        exact ih
      · rw [if_pos rfl] at ih
        have hv : v = 1 := hv
        rw [hv, if_neg (by decide), if_neg (by decide), fa_or, or_pow ho1, ld_p a (by omega) b (by omega)]
        exact ih
    have hge : ¬ σ.1 640 ≤ nI x := by
      rw [hT.1]
      exact fun z => absurd ((nI_leI (by omega) (by omega)).mp z) (by omega)
    have hwv : (if nI wz &&& ((1 : Int32) <<< (nI x &&& 31)) = 0 then (0 : Int32) else 1) = (if wz.testBit x then 1 else 0) := by
      by_cases q : nI wz &&& ((1 : Int32) <<< (nI x &&& 31)) = 0
      · rw [if_pos q, (nI_bit0 (by omega)).mp q]; rfl
      · rw [if_neg q, nI_bit0t (by omega) q]; rfl
    refine R_X2_sayings_22 K (fun h2 => absurd h2 hge) (fun _ hs => ?_) (fun _ hs h6 => ?_) (fun _ hs h6 h4 => ?_) (fun _ hs h6 h4 => ?_)
    · have e := (nI_bit0 (by omega)).mp hs
      rw [pollS, if_neg (by rw [e]; simp), ha, hb, hy] at ih
      rw [nI_1]
      exact ih
    · refine fin _ (wz.testBit x) hwv (nI_bit0t (by omega) hs) ?_
      have : a = b := (ld_0 a (by omega) b (by omega)).mp h6
      simp [sayS, this]
    · refine fin _ (wz.testBit x) hwv (nI_bit0t (by omega) hs) ?_
      have e := (nI_bit0 (by omega)).mp h4
      rw [hbend] at e
      have : (fz.testBit x || tkd t x == 0 || a == b) = true := by
        cases q : fz.testBit x
        · rw [q] at e; simp at e; simp [e]
        · simp
      simp only [sayS, this, if_true]
    · have e := nI_bit0t (by omega) h4
      rw [hbend] at e
      have e2 : fz.testBit x = false ∧ tkd t x ≠ 0 := by
        simp at e; exact ⟨by simp [e], e.1⟩
      have hne : a ≠ b := fun z => h6 ((ld_0 a (by omega) b (by omega)).mpr z)
      have hk2 := hO.2.2.2.2.2.1 x
      rw [hT.2.2.2.2.2.1]
      refine fin _ (sayS (tkd t) wz.testBit fz.testBit x a b) ?_ (nI_bit0t (by omega) hs) rfl
      have hc0 : (if nI (bs (fun x => tkd t x == 2) (tnp t)) &&& ((1 : Int32) <<< (nI x &&& 31)) = 0 then (0 : Int32) else 1) = (if tkd t x == 2 then 1 else 0) := by
        by_cases q : nI (bs (fun x => tkd t x == 2) (tnp t)) &&& ((1 : Int32) <<< (nI x &&& 31)) = 0
        · rw [if_pos q, ← hcon, (nI_bit0 (by omega)).mp q]; rfl
        · rw [if_neg q, ← hcon, nI_bit0t (by omega) q]; rfl
      rw [hc0]
      have hsay : sayS (tkd t) wz.testBit fz.testBit x a b = if tkd t x == 1 then decide (b < a) else decide (a < b) := by
        simp [sayS, e2.1, e2.2, hne]
      rw [hsay]
      have hl := ld_le a (by omega) b (by omega)
      rcases (show tkd t x = 1 ∨ tkd t x = 2 from by omega) with k1 | k1
      · rw [k1]
        by_cases q : a ≤ b
        · rw [if_pos (hl.mpr q)]
          have : ¬ b < a := by omega
          simp [this]
        · rw [if_neg (fun z => q (hl.mp z))]
          have : b < a := by omega
          simp [this]
      · rw [k1]
        by_cases q : a ≤ b
        · rw [if_pos (hl.mpr q)]
          have : a < b := by omega
          simp [this]
        · rw [if_neg (fun z => q (hl.mp z))]
          have : ¬ a < b := by omega
          simp [this]
theorem m_sayings {ω : WT} {l : Launch} {d set wz fz : Nat} {t : Tn} {σ : St} (hWf : Wf ω) (hT : TC t σ) (hO : TO t) : Sp ω l yX2_sayings cX2_sayings 10 (some .int) d [.ref (ω.2.2.1 14), .int (nI set), .int (nI wz), .int (nI fz)] σ (rI (nI (pollS (tkd t) wz.testBit fz.testBit set (tnp t)).1) σ) :=
  Sp.of (by decide) (Nat.le_of_ble_eq_true rfl) hWf (fun κ K => R_X2_sayings_0 K (by
    rw [hT.2.2.2.2.2.2.1, nI_andnot (n := tnp t) (bs_lt _ _)]
    have h := sayings_loop hT hO K (tnp t) 0 (by omega)
    rw [show nI (pollS (tkd t) wz.testBit fz.testBit set 0).2.1 - nI (pollS (tkd t) wz.testBit fz.testBit set 0).2.2 = (0 : Int32) from by show nI 0 - nI 0 = 0; decide] at h
    exact h))

theorem seat_tab : ∀ me, me < 4 → ∀ np, np < 9 → ∀ a, a < 9 → ∀ b, b < 9 → (if ocS a b = -5 then (0 : Int32) else (if (if nI me = 0 then (if nI a ≤ nI b then nI b - nI a else nI a - nI b) else (if nI me = 1 then (if nI a ≤ nI b then nI b else nI a) else (if nI me = 2 then (nI a + nI b - (if nI a ≤ nI b then nI b else nI a)) else (2 * (if nI a ≤ nI b then nI b - nI a else nI a - nI b))))) ≤ nI np then (if nI me = 0 then (if nI a ≤ nI b then nI b - nI a else nI a - nI b) else (if nI me = 1 then (if nI a ≤ nI b then nI b else nI a) else (if nI me = 2 then (nI a + nI b - (if nI a ≤ nI b then nI b else nI a)) else (2 * (if nI a ≤ nI b then nI b - nI a else nI a - nI b))))) else nI np)) = nI (seatsS me np a b) := by decide +kernel
theorem oc_tab : ∀ a, a < 9 → ∀ b, b < 9 → (if nI a = nI b then (-5 : Int32) else (if nI a ≤ nI b then 0 else 1)) = ocS a b := by decide +kernel
/-- what each says: of the faction what it is told, else what it wishes -/
def tellW (t : Tn) (mt fa to : Nat) : Nat → Bool := fun x => if fa.testBit x then to.testBit x else tws t x mt
theorem poll_loop {ω : WT} {κ : KT} {l : Launch} {d me mt fa to set : Nat} {t : Tn} {σ : St} (hd : 1 ≤ d) (hT : TM t σ) (hO : TO t) (hset : σ.1 2258 = nI set) (hs : set < 256) (hme : σ.1 2261 = nI me) (hme3 : me ≤ 3) (hmt : mt < tnm t) (hfa : fa < 256) (hto : to < 256)
    (K : Cm ω κ l yX9_poll cX9_poll 9 d none (rV (pS (pS (pS (pS σ 2263 (nI set)) 2264 (nI (pollS (tkd t) (tellW t mt fa to) fa.testBit set (tnp t)).1)) 2265 (ocS (pollS (tkd t) (tellW t mt fa to) fa.testBit set (tnp t)).2.1 (pollS (tkd t) (tellW t mt fa to) fa.testBit set (tnp t)).2.2)) 2266 (nI (seatsS me (tnp t) (pollS (tkd t) (tellW t mt fa to) fa.testBit set (tnp t)).2.1 (pollS (tkd t) (tellW t mt fa to) fa.testBit set (tnp t)).2.2))))) :
    ∀ j x, x + j = tnp t → V ω κ 22 [(0, .ref (ω.2.2.1 35)), (1, .int (nI mt)), (2, .int (nI fa)), (3, .int (nI to)), (4, .int (nI (pollS (tkd t) (tellW t mt fa to) fa.testBit set x).2.1)), (5, .int (nI (pollS (tkd t) (tellW t mt fa to) fa.testBit set x).2.2)), (6, .int (nI x))] [] (pS (pS σ 2263 (nI set)) 2264 (nI (pollS (tkd t) (tellW t mt fa to) fa.testBit set x).1))
  | 0, x, h => by
    obtain rfl : x = tnp t := by omega
    have hnp := hO.1
    obtain ⟨hn1, hn2⟩ := pollS_n (tkd t) (tellW t mt fa to) fa.testBit set (tnp t)
    have hle : σ.1 2245 ≤ nI (tnp t) := by rw [hT.1]; exact nI_le (Nat.le_refl _) (by omega)
    refine R_X9_poll_22 K hd (fun _ => ?_) (fun h => absurd hle h) (fun h => absurd hle h) (fun h => absurd hle h) (fun h => absurd hle h) (fun h => absurd hle h)
    refine R_X9_poll_219 K ⟨rfl, ?_⟩
    rw [pS_over, oc_tab _ (by omega) _ (by omega)]
    have e1 : ∀ v, (pS (pS (pS σ 2263 (nI set)) 2264 (nI (pollS (tkd t) (tellW t mt fa to) fa.testBit set (tnp t)).1)) 2265 v).1 2261 = nI me := fun v => hme
    have e2 : ∀ v, (pS (pS (pS σ 2263 (nI set)) 2264 (nI (pollS (tkd t) (tellW t mt fa to) fa.testBit set (tnp t)).1)) 2265 v).1 2245 = nI (tnp t) := fun v => hT.1
    have e3 : ∀ v, (pS (pS (pS σ 2263 (nI set)) 2264 (nI (pollS (tkd t) (tellW t mt fa to) fa.testBit set (tnp t)).1)) 2265 v).1 2265 = v := fun v => rfl
    rw [e1, e2, e3, seat_tab me (by omega) (tnp t) (by omega) _ (by omega) _ (by omega)]
  | j + 1, x, h => by
    have hnp := hO.1
    have hnm := hO.2.1
    have ih := poll_loop hd hT hO hset hs hme hme3 hmt hfa hto K j (x + 1) (by omega)
    obtain ⟨hn1, hn2⟩ := pollS_n (tkd t) (tellW t mt fa to) fa.testBit set x
    obtain ⟨ho1, -, -, -⟩ := pollS_ok (tkd t) (tellW t mt fa to) fa.testBit set x
    generalize ha : (pollS (tkd t) (tellW t mt fa to) fa.testBit set x).2.1 = a at *
    generalize hb : (pollS (tkd t) (tellW t mt fa to) fa.testBit set x).2.2 = b at *
    generalize hy : (pollS (tkd t) (tellW t mt fa to) fa.testBit set x).1 = yy at *
    have hge : ¬ σ.1 2245 ≤ nI x := by
      rw [hT.1]
      exact fun z => absurd ((nI_leI (by omega) (by omega)).mp z) (by omega)
    have hin : vp_in (nI x) 8 := vp_in_nI (by omega) (by omega)
    refine R_X9_poll_22 K hd (fun h2 => absurd h2 hge) (fun _ hs1 => ?_) (fun _ _ _ => hin) (fun _ _ _ => hin) (fun _ _ _ _ _ => hin) (fun _ hs1 => ?_)
    · have hs1 : ¬ ((σ.1 2258 >>> (nI x &&& 31)) &&& 1) = 1 := hs1
      rw [hset] at hs1
      have e : set.testBit x = false := by
        cases q : set.testBit x
        · rfl
        · exact absurd ((nI_bit1 (by omega) (by omega)).mpr q) hs1
      rw [pollS, if_neg (by rw [e]; simp), ha, hb, hy] at ih
      rw [nI_1]
      exact ih
    · have hs1 : ((σ.1 2258 >>> (nI x &&& 31)) &&& 1) = 1 := hs1
      rw [hset] at hs1
      have e : set.testBit x = true := (nI_bit1 (by omega) (by omega)).mp hs1
      have hx : x < tnp t := by omega
      have hcl : (nI x).toNatClampNeg = x := nI_clamp (by omega)
      have h39 : (pS (pS σ 2263 (nI set)) 2264 (nI yy)).2.1 39 (nI x).toNatClampNeg = nI (tkd t x) := by rw [hcl]; exact hT.2.2.2.2.2.1 x hx
      have h40 : (pS (pS σ 2263 (nI set)) 2264 (nI yy)).2.1 40 (nI x).toNatClampNeg = nI (bs (tws t x) (tnm t)) := by rw [hcl]; exact hT.2.2.2.2.2.2.1 x hx
      rw [h39, h40]
      have hbl : bs (tws t x) (tnm t) < 2 ^ 31 := Nat.lt_of_lt_of_le (bs_lt _ _) (Nat.pow_le_pow_right (by omega) (by omega))
      have hwb : (bs (tws t x) (tnm t)).testBit mt = tws t x mt := by rw [bs_bit]; simp [hmt]
      have bw : (if (nI (bs (tws t x) (tnm t)) >>> (nI mt &&& 31)) &&& 1 = 1 then (1 : Int32) else 0) = if tws t x mt then 1 else 0 := by
        cases q : tws t x mt
        · rw [if_neg (fun z => by rw [nI_bit1 hbl (by omega), hwb, q] at z; cases z)]; rfl
        · rw [if_pos ((nI_bit1 hbl (by omega)).mpr (by rw [hwb, q]))]; rfl
      have bt' : (if (nI to >>> (nI x &&& 31)) &&& 1 = 1 then (1 : Int32) else 0) = if to.testBit x then 1 else 0 := by
        cases q : to.testBit x
        · rw [if_neg (fun z => by rw [nI_bit1 (by omega) (by omega), q] at z; cases z)]; rfl
        · rw [if_pos ((nI_bit1 (by omega) (by omega)).mpr q)]; rfl
      have hk2 := hO.2.2.2.2.2.1 x
      have hv : (if (nI fa >>> (nI x &&& 31)) &&& 1 = 1 then (if (nI to >>> (nI x &&& 31)) &&& 1 = 1 then (1 : Int32) else 0) else (if nI (tkd t x) = 0 then (if (nI (bs (tws t x) (tnm t)) >>> (nI mt &&& 31)) &&& 1 = 1 then (1 : Int32) else 0) else (if nI a = nI b then (if (nI (bs (tws t x) (tnm t)) >>> (nI mt &&& 31)) &&& 1 = 1 then (1 : Int32) else 0) else (if nI (tkd t x) = 1 then (if nI a ≤ nI b then (0 : Int32) else 1) else (if nI b ≤ nI a then (0 : Int32) else 1))))) = if sayS (tkd t) (tellW t mt fa to) fa.testBit x a b then 1 else 0 := by
        rw [bw, bt']
        cases q : fa.testBit x
        · rw [if_neg (fun z => by rw [nI_bit1 (by omega) (by omega), q] at z; cases z)]
          have hw : tellW t mt fa to x = tws t x mt := by simp [tellW, q]
          rcases (show tkd t x = 0 ∨ tkd t x = 1 ∨ tkd t x = 2 from by omega) with k | k | k
          · rw [k, if_pos (by decide)]
            simp [sayS, k, hw]
          · rw [k, if_neg (by decide), if_pos (by decide : nI 1 = 1)]
            by_cases z : a = b
            · rw [if_pos (by rw [z])]
              simp [sayS, z, hw]
            · rw [if_neg (fun y => z ((nI_eq (by omega) (by omega)).mp y))]
              by_cases z2 : a ≤ b
              · rw [if_pos (nI_le z2 (by omega))]
                have : ¬ b < a := by omega
                simp [sayS, z, k, q, this]
              · rw [if_neg (fun y => z2 ((nI_leI (by omega) (by omega)).mp y))]
                have : b < a := by omega
                simp [sayS, z, k, q, this]
          · rw [k, if_neg (by decide), if_neg (by decide : ¬ nI 2 = 1)]
            by_cases z : a = b
            · rw [if_pos (by rw [z])]
              simp [sayS, z, hw]
            · rw [if_neg (fun y => z ((nI_eq (by omega) (by omega)).mp y))]
              by_cases z2 : b ≤ a
              · rw [if_pos (nI_le z2 (by omega))]
                have : ¬ a < b := by omega
                simp [sayS, z, k, q, this]
              · rw [if_neg (fun y => z2 ((nI_leI (by omega) (by omega)).mp y))]
                have : a < b := by omega
                simp [sayS, z, k, q, this]
        · rw [if_pos ((nI_bit1 (by omega) (by omega)).mpr q)]
          simp [sayS, tellW, q]
      rw [hv]
      refine R_X9_poll_85 K ?_
      rw [pollS, if_pos e, ha, hb, hy] at ih
      rw [pS_over, nI_1, sh1 x (by omega)]
      have er : (pS (pS σ 2263 (nI set)) 2264 (nI yy)).1 2264 = nI yy := rfl
      rw [er]
      cases q : sayS (tkd t) (tellW t mt fa to) fa.testBit x a b
      · rw [q, if_neg (by decide)] at ih
        rw [show (if (if false = true then (1 : Int32) else 0) = 0 then (0 : Int32) else 1) = 0 from rfl, show (if (if false = true then (1 : Int32) else 0) = 0 then (1 : Int32) else 0) = 1 from rfl, show (if (if false = true then (1 : Int32) else 0) = 0 then (0 : Int32) else nI (2 ^ x)) = nI 0 from rfl, fa_or, Nat.or_zero, nI_1, show nI a + 0 = nI a from by rw [show (0 : Int32) = nI 0 from rfl, nI_add]; rfl]
        exact ih
      · rw [q, if_pos rfl] at ih
        rw [show (if (if true = true then (1 : Int32) else 0) = 0 then (0 : Int32) else 1) = 1 from rfl, show (if (if true = true then (1 : Int32) else 0) = 0 then (1 : Int32) else 0) = nI 0 from rfl, show (if (if true = true then (1 : Int32) else 0) = 0 then (0 : Int32) else nI (2 ^ x)) = nI (2 ^ x) from rfl, fa_or, or_pow ho1, nI_1, nI_add]
        exact ih
theorem m_poll {ω : WT} {l : Launch} {d me mt fa to set : Nat} {t : Tn} {σ : St} (hWf : Wf ω) (hd : 1 ≤ d) (hT : TM t σ) (hO : TO t) (hset : σ.1 2258 = nI set) (hs : set < 256) (hme : σ.1 2261 = nI me) (hme3 : me ≤ 3) (hmt : mt < tnm t) (hfa : fa < 256) (hto : to < 256) :
    Sp ω l yX9_poll cX9_poll 9 none d [.ref (ω.2.2.1 35), .int (nI mt), .int (nI fa), .int (nI to)] σ (rV (pS (pS (pS (pS σ 2263 (nI set)) 2264 (nI (pollS (tkd t) (tellW t mt fa to) fa.testBit set (tnp t)).1)) 2265 (ocS (pollS (tkd t) (tellW t mt fa to) fa.testBit set (tnp t)).2.1 (pollS (tkd t) (tellW t mt fa to) fa.testBit set (tnp t)).2.2)) 2266 (nI (seatsS me (tnp t) (pollS (tkd t) (tellW t mt fa to) fa.testBit set (tnp t)).2.1 (pollS (tkd t) (tellW t mt fa to) fa.testBit set (tnp t)).2.2)))) :=
  Sp.of (by decide) (Nat.le_of_ble_eq_true rfl) hWf (fun κ K => R_X9_poll_0 K (by
    rw [hset]
    exact poll_loop hd hT hO hset hs hme hme3 hmt hfa hto K (tnp t) 0 (by omega)))
/-- seatWinners -/
theorem sw_inner {ω : WT} {κ : KT} {l : Launch} {d np s c acc : Nat} {x1 x4 : Int32} {σ : St} {post : Option Value → St → Prop} (hp : σ.1 2245 = nI np) (hnp : np ≤ 8) (hs : s < 256) (hc : c ≤ 8) (K : Cm ω κ l yX9_seatWinners cX9_seatWinners 7 d none post)
    (kk : V ω κ 35 [(0, .ref (ω.2.2.1 35)), (1, .int x1), (2, .int (nI (acc ||| (foS s c np).1))), (3, .int (nI (foS s c np).2)), (4, .int (x4 + 1))] [] σ) :
    ∀ j x, x + j = np → V ω κ 79 [(0, .ref (ω.2.2.1 35)), (1, .int x1), (2, .int (nI (acc ||| (foS s c x).1))), (3, .int (nI (foS s c x).2)), (4, .int x4), (5, .int (nI s)), (6, .int (nI x))] [] σ
  | 0, x, h => by
    obtain rfl : x = np := by omega
    have hle : σ.1 2245 ≤ nI x := by rw [hp]; exact nI_le (Nat.le_refl _) (by omega)
    exact R_X9_seatWinners_79 K (fun _ => kk) (fun h => absurd hle h) (fun h => absurd hle h) (fun h => absurd hle h)
  | j + 1, x, h => by
    obtain ⟨h1, h2, h3⟩ := foS_ok s c x
    have ih := sw_inner hp hnp hs hc K kk j (x + 1) (by omega)
    have hge : ¬ σ.1 2245 ≤ nI x := by
      rw [hp]
      exact fun z => absurd ((nI_leI (by omega) (by omega)).mp z) (by omega)
    refine R_X9_seatWinners_79 K (fun h2 => absurd h2 hge) (fun _ hc0 => ?_) (fun _ hc0 hb => ?_) (fun _ hc0 hb => ?_)
    · have e0 : (foS s c x).2 = 0 := by
        have := (nI_leI (a := (foS s c x).2) (b := 0) (by omega) (by omega)).mp hc0
        omega
      have := foS_stop e0 (np - x)
      rw [show x + (np - x) = np by omega] at this
      rw [this] at kk
      exact kk
    · have e : s.testBit x = false := by
        cases q : s.testBit x
        · rfl
        · exact absurd ((nI_bit1 (by omega) (by omega)).mpr q) hb
      rw [foS, if_neg (by rw [e]; simp)] at ih
      rw [nI_1]
      exact ih
    · have e : s.testBit x = true := (nI_bit1 (by omega) (by omega)).mp hb
      have e2 : 0 < (foS s c x).2 := by
        rcases Nat.eq_zero_or_pos (foS s c x).2 with z | z
        · exact absurd (by rw [z]; decide) hc0
        · exact z
      rw [foS, if_pos ⟨e, e2⟩] at ih
      rw [sh1 x (by omega), fa_or, or_step h1, nI_pr e2, nI_1]
      exact ih
theorem sub_lt {s y n : Nat} (hs : s < 2 ^ n) (h : ∀ i, y.testBit i = true → s.testBit i = true) : y < 2 ^ n := Nat.lt_of_le_of_lt (dif hs h).1 hs
theorem wonS_sub {set yy : Nat} {oc : Int32} {n : Nat} (hs : set < 2 ^ n) (h : ∀ i, yy.testBit i = true → set.testBit i = true) : ∀ i, (wonS set yy oc).testBit i = true → set.testBit i = true := by
  intro i hi
  unfold wonS at hi
  split at hi
  · exact h i hi
  · rw [(dif hs h).2, bs_bit] at hi
    simp at hi
    exact hi.2.1
theorem m_seatWinners {ω : WT} {l : Launch} {d np n set yy : Nat} {oc : Int32} {σ : St} (hWf : Wf ω) (hd : 1 ≤ d) (hp : σ.1 2245 = nI np) (hnp : np ≤ 8) (h63 : σ.1 2263 = nI set) (h64 : σ.1 2264 = nI yy) (h65 : σ.1 2265 = oc) (h66 : σ.1 2266 = nI n) (hs : set < 2 ^ np) (hyy : ∀ i, yy.testBit i = true → set.testBit i = true) (hn : n ≤ 8) :
    Sp ω l yX9_seatWinners cX9_seatWinners 7 none d [.ref (ω.2.2.1 35)] σ (rV (pS σ 2258 (nI (winS np set yy oc n)))) := by
  refine Sp.of (by decide) (Nat.le_of_ble_eq_true rfl) hWf (fun κ K => R_X9_seatWinners_0 K ?_)
  have hp8 := p2_le8 hnp
  have d1 := dif hs hyy
  have hw := wonS_sub (oc := oc) hs hyy
  have d2 := dif hs hw
  have hwl := sub_lt hs hw
  have hall : set ≤ 2 ^ np - 1 := by omega
  obtain ⟨-, o1, -⟩ := foS_ok (wonS set yy oc) n np
  obtain ⟨-, o2, -⟩ := foS_ok (set - wonS set yy oc) (foS (wonS set yy oc) n np).2 np
  rw [h63, h64, h65, h66]
  have e1 : (if oc = 1 then nI yy else nI set - nI yy) = nI (wonS set yy oc) := by
    unfold wonS
    split
    · rfl
    · rw [pk_sub d1.1]
  rw [e1]
  have fin : V ω κ 35 [(0, .ref (ω.2.2.1 35)), (1, .int (nI (wonS set yy oc))), (2, .int (nI (winS np set yy oc n))), (3, .int (nI (foS (2 ^ np - 1 - set) (foS (set - wonS set yy oc) (foS (wonS set yy oc) n np).2 np).2 np).2)), (4, .int (2 + 1))] [] σ :=
    R_X9_seatWinners_35 K hd (fun _ => ⟨rfl, rfl⟩) (fun h => absurd (by decide) h)
  have t3 : V ω κ 35 [(0, .ref (ω.2.2.1 35)), (1, .int (nI (wonS set yy oc))), (2, .int (nI ((foS (wonS set yy oc) n np).1 ||| (foS (set - wonS set yy oc) (foS (wonS set yy oc) n np).2 np).1))), (3, .int (nI (foS (set - wonS set yy oc) (foS (wonS set yy oc) n np).2 np).2)), (4, .int (1 + 1))] [] σ := by
    refine R_X9_seatWinners_35 K hd (fun h => absurd h (by decide)) (fun _ => ?_)
    rw [if_neg (by decide), if_neg (by decide), hp, h63, sh1 np (by omega), show nI (2 ^ np) - 1 - nI set = nI (2 ^ np - 1 - set) from by rw [show (1 : Int32) = nI 1 from rfl, pk_sub (by omega), pk_sub (by omega)]]
    have h := sw_inner (x4 := 1 + 1) (acc := (foS (wonS set yy oc) n np).1 ||| (foS (set - wonS set yy oc) (foS (wonS set yy oc) n np).2 np).1) (s := 2 ^ np - 1 - set) (c := (foS (set - wonS set yy oc) (foS (wonS set yy oc) n np).2 np).2) hp hnp (by omega) (by omega) K fin np 0 (by omega)
    rw [show ∀ a : Nat, a ||| (foS (2 ^ np - 1 - set) (foS (set - wonS set yy oc) (foS (wonS set yy oc) n np).2 np).2 0).1 = a from fun a => Nat.or_zero a] at h
    exact h
  have t2 : V ω κ 35 [(0, .ref (ω.2.2.1 35)), (1, .int (nI (wonS set yy oc))), (2, .int (nI (0 ||| (foS (wonS set yy oc) n np).1))), (3, .int (nI (foS (wonS set yy oc) n np).2)), (4, .int (0 + 1))] [] σ := by
    rw [Nat.zero_or]
    refine R_X9_seatWinners_35 K hd (fun h => absurd h (by decide)) (fun _ => ?_)
    rw [if_neg (by decide), if_pos (by decide), h63, pk_sub d2.1]
    have h := sw_inner (x4 := 1) (acc := (foS (wonS set yy oc) n np).1) (s := set - wonS set yy oc) (c := (foS (wonS set yy oc) n np).2) hp hnp (by omega) (by omega) K t3 np 0 (by omega)
    rw [show ∀ a : Nat, a ||| (foS (set - wonS set yy oc) (foS (wonS set yy oc) n np).2 0).1 = a from fun a => Nat.or_zero a] at h
    exact h
  refine R_X9_seatWinners_35 K hd (fun h => absurd h (by decide)) (fun _ => ?_)
  rw [if_pos rfl]
  have h := sw_inner (x4 := 0) (acc := 0) (s := wonS set yy oc) (c := n) hp hnp (by omega) (by omega) K t2 np 0 (by omega)
  rw [show (0 : Nat) ||| (foS (wonS set yy oc) n 0).1 = 0 from Nat.or_zero 0] at h
  exact h
