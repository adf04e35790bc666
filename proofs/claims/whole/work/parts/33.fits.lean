/-! ===== fits ===== -/
section FITS
variable {ω : WT} {l : Launch} {d : Nat} {a : Ab} {σ : St}
/-- the model's reason against taking cells -/
def agM (S L sort i n : Int32) : Int32 := if S = -9 then (if S = -9 then 1 else (if 0 ≤ n then (if i < 0 then 3 else (if L < i then 3 else (if n ≤ L - i then 0 else 3))) else 4)) else (if S = sort then (if S = -9 then 1 else (if 0 ≤ n then (if i < 0 then 3 else (if L < i then 3 else (if n ≤ L - i then 0 else 3))) else 4)) else 2)
theorem agM_kind {j : Nat} {sort i n : Int32} (hR : RM a σ) (hj : j < 4) (hA : AO a) : agM (σ.2.1 36 j) (σ.2.1 37 j) sort i n = nI (kindS (ash a j) sort i n) := by
  rcases shM_row hR hj hA with ⟨r1, r2⟩ | ⟨so, len, c, r1, r2, r3, r4, r5, r6, r7⟩
  · rw [r1]
    unfold agM
    rw [if_pos r2, if_pos r2]
    rfl
  · rw [r1]
    unfold agM kindS
    simp only
    rw [if_neg r7, if_neg r7]
    by_cases hs : σ.2.1 36 j = sort
    · rw [if_pos hs, if_neg (show ¬ nI so ≠ sort by rw [← r4]; exact fun z_ => z_ hs)]
      by_cases hn : n < 0
      · rw [if_neg (Int32.not_le.mpr hn), if_pos hn]; rfl
      · rw [if_pos (Int32.not_lt.mp hn), if_neg hn, r5]
        unfold hasC
        by_cases h1 : i < 0
        · rw [if_pos h1, if_pos h1, if_pos rfl]; rfl
        · rw [if_neg h1, if_neg h1]
          by_cases h2 : nI len < i
          · rw [if_pos h2, if_pos h2, if_pos rfl]; rfl
          · rw [if_neg h2, if_neg h2, if_neg hn]
            by_cases h3 : n ≤ nI len - i
            · rw [if_pos h3, if_neg (Int32.not_lt.mpr h3), if_neg (by decide)]; rfl
            · rw [if_neg h3, if_pos (Int32.not_le.mp h3), if_pos rfl]; rfl
    · rw [if_neg hs, if_pos (show nI so ≠ sort by rw [← r4]; exact hs)]
      rfl
theorem kindS_le (s : Shv) (sort i n : Int32) : kindS s sort i n ≤ 4 := by
  unfold kindS
  split
  · decide
  · split
    · decide
    · split
      · decide
      · split <;> decide
theorem neg10 {k : Nat} (h : k ≤ 4) : ¬ (-10 : Int32) - nI k = 0 := by
  have : ∀ k, k < 5 → ¬ (-10 : Int32) - nI k = 0 := by decide +kernel
  exact this k (by omega)
theorem chN_up {f g : Nat → Int32} {n : Nat} : ∀ k, chN f g n ≤ chN f g (n + k)
  | 0 => Nat.le_refl _
  | k + 1 => Nat.le_trans (chN_up k) (by rw [← Nat.add_assoc, chN]; omega)
theorem hasSeats_loop {κ : KT} {j n p so len : Nat} {c : Nat → Int32} (hj : j < 4) (h44 : σ.1 644 = nI n) (hn : n ≤ 6) (hl : σ.1 (64 * (2 + j) + 1) = nI len) (hlen : len ≤ 80) (hc : ∀ i, i < len → σ.2.1 (6 + j) i = c i) (hp : p + n ≤ len) (hd : 1 ≤ d) (K : Cm ω κ l yX0_hasSeatsAsIn cX0_hasSeatsAsIn 4 d (some .boolean) (rI (if chN (σ.2.1 19) (fun q => c (p + q)) n = 0 then 1 else 0) σ)) : ∀ k q, q + k = n → chN (σ.2.1 19) (fun q => c (p + q)) q = 0 → V ω κ 2 [(0, .ref (ω.2.2.1 15)), (1, .ref (ω.2.2.1 (2 + j))), (2, .int (nI p)), (3, .int (nI q))] [] σ
  | 0, q, h, h0 => by
    obtain rfl : q = n := by omega
    have hle : σ.1 644 ≤ nI q := by rw [h44]; exact nI_le (Nat.le_refl _) (by omega)
    exact R_X0_hasSeatsAsIn_2 hj K hd (fun _ => ⟨by rw [if_pos h0], rfl⟩) (fun z_ => absurd hle z_) (fun z_ => absurd hle z_) (fun z_ => absurd hle z_) (fun z_ => absurd hle z_)
  | k + 1, q, h, h0 => by
    have hge : ¬ σ.1 644 ≤ nI q := by
      rw [h44]
      exact fun z => absurd ((nI_leI (by omega) (by omega)).mp z) (by omega)
    have hcl : (nI q).toNatClampNeg = q := nI_clamp (by omega)
    have e : nI p + nI q = nI (p + q) := nI_add _ _
    have ev : (if nI p + nI q < 0 then (0 : Int32) else (if σ.1 (64 * (2 + j) + 1) ≤ nI p + nI q then 0 else σ.2.1 (6 + j) (nI p + nI q).toNatClampNeg)) = c (p + q) := by
      rw [e, hl, if_neg (nI_pos (by omega)), if_neg (fun z => absurd ((nI_leI (by omega) (by omega)).mp z) (by omega)), nI_clamp (by omega)]
      exact hc _ (by omega)
    refine R_X0_hasSeatsAsIn_2 hj K hd (fun z_ => absurd z_ hge) (fun _ => vp_in_nI (by omega) (by omega)) (fun _ _ _ => by rw [e]; exact vp_in_nI (by omega) (by omega)) (fun _ z_ => ?_) (fun _ z_ => ?_)
    · rw [ev, hcl] at z_
      rw [nI_1]
      refine hasSeats_loop (so := so) hj h44 hn hl hlen hc hp hd K k (q + 1) (by omega) ?_
      rw [chN, h0, Nat.zero_add]
      exact if_pos z_
    · rw [ev, hcl] at z_
      have : chN (σ.2.1 19) (fun q => c (p + q)) (q + 1) = 1 := by
        rw [chN, h0]
        exact congrArg (0 + ·) (if_neg z_)
      have h3 := chN_up (f := σ.2.1 19) (g := fun q => c (p + q)) (n := q + 1) k
      rw [show q + 1 + k = n by omega, this] at h3
      exact ⟨by rw [if_neg (by omega)], rfl⟩
theorem m_hasSeats {j n p len : Nat} {c : Nat → Int32} (hWf : Wf ω) (hj : j < 4) (h44 : σ.1 644 = nI n) (hn : n ≤ 6) (hl : σ.1 (64 * (2 + j) + 1) = nI len) (hlen : len ≤ 80) (hc : ∀ i, i < len → σ.2.1 (6 + j) i = c i) (hp : p + n ≤ len) (hd : 1 ≤ d) : Sp ω l yX0_hasSeatsAsIn cX0_hasSeatsAsIn 4 (some .boolean) d [.ref (ω.2.2.1 15), .ref (ω.2.2.1 (2 + j)), .int (nI p)] σ (rI (if chN (σ.2.1 19) (fun q => c (p + q)) n = 0 then 1 else 0) σ) :=
  Sp.of (by decide) (Nat.le_of_ble_eq_true rfl) hWf (fun κ K => R_X0_hasSeatsAsIn_0 hj K (hasSeats_loop (so := 0) hj h44 hn hl hlen hc hp hd K n 0 (by omega) rfl))
abbrev oW (t : Tn) : Nat → Nat → Bool := fun q x => tws t x (tag t q)
/-- do the seats of a run by pair r of rules stand in a row from p on? -/
def fitB (t : Tn) (c : Nat → Int32) (p r : Nat) : Bool := decide (chN (fun q => nI (vtS t (r / 3) (r % 3) (oW t) (op t) q).2.2.1) (fun q => c (p + q)) (tit t) = 0)
theorem bs_or {p : Nat → Bool} {r : Nat} : nI (bs p r) ||| (if p r then nI (2 ^ r) else 0) = nI (bs p (r + 1)) := by
  cases e : p r
  · rw [if_neg (by decide), show (0 : Int32) = nI 0 from rfl, fa_or, Nat.or_zero]
    simp [bs, e]
  · rw [if_pos rfl, fa_or, or_pow (bs_lt p r)]
    simp [bs, e]
def o_fits (a : Ab) (k sort i : Int32) : Int32 × Ab := if (o_why a k sort i (nI (tit (att a)))).1 = 0 then (if tnp (att a) = 0 then (-3, setFl a 0) else (nI (bs (fitB (att a) (shAt (ash a k.toNatClampNeg)) i.toNatClampNeg) 12), setFl a 0)) else o_why a k sort i (nI (tit (att a)))
theorem a_fits {k sort i : Int32} (hA : AO a) : AO (o_fits a k sort i).2 := by
  unfold o_fits
  split
  · split <;> exact hA
  · exact a_why hA
theorem fitsC_inner {κ : KT} {t : Tn} {j p len m : Nat} {c : Nat → Int32} (hWf : Wf ω) (hd : 6 ≤ d) (hj : j < 4) (hT : TC t σ) (hO : TO t) (h2 : 2 ≤ tnp t) (hl : σ.1 (64 * (2 + j) + 1) = nI len) (hlen : len ≤ 80) (hc : ∀ i, i < len → σ.2.1 (6 + j) i = c i) (hp : p + tit t ≤ len) (hm : m < 4) {post : Option Value → St → Prop} (K : Cm ω κ l yX8_fits cX8_fits 8 d (some .int) post)
    (fin : ∀ σ', Eqx [897, 898, 899, 900, 901] [16, 17, 18, 19] σ σ' → V ω κ 43 [(0, .ref (ω.2.2.1 0)), (1, .int (nI j)), (3, .int (nI p)), (5, .int (nI (bs (fitB t c p) (3 * (m + 1))))), (6, .int (nI (m + 1)))] [] σ') :
    ∀ k r σq, r + k = 3 → Eqx [897, 898, 899, 900, 901] [16, 17, 18, 19] σ σq → V ω κ 52 [(0, .ref (ω.2.2.1 0)), (1, .int (nI j)), (3, .int (nI p)), (5, .int (nI (bs (fitB t c p) (3 * m + r)))), (6, .int (nI m)), (7, .int (nI r))] [] σq
  | 0, r, σq, h, hE => by
    obtain rfl : r = 3 := by omega
    exact R_X8_fits_52 K (by omega) (fun _ => by rw [nI_1]; exact fin σq hE) (fun z_ => absurd (show nI 3 ≤ nI 3 from nI_le (Nat.le_refl _) (by omega)) z_)
  | k + 1, r, σq, h, hE => by
    have hnp := hO.1
    have hit := hO.2.2.2.2.1
    have hTq : TC t σq := hT.keep hE (by decide) (by decide)
    have hge : ¬ (3 : Int32) ≤ nI r := fun z => absurd ((nI_leI (a := 3) (by decide) (by omega)).mp z) (by omega)
    have ho := op_ok h2
    refine R_X8_fits_52 K (by omega) (fun z_ => absurd z_ hge) (fun _ => ?_)
    have e : (if σq.1 640 - 1 < 0 then (0 : Int32) else σq.1 640 - 1) * 256 + (((1 : Int32) <<< (σq.1 640 &&& 31)) - 1) = nI ((op t).2 * 256 + (op t).1) := by
      rw [hTq.1, nI_all hnp, show (1 : Int32) = nI 1 from rfl, pk_sub (by omega), if_neg (nI_pos (by omega)), show (256 : Int32) = nI 256 from rfl, pk_mul, nI_add]
    rw [e, show (0 : Int32) = nI 0 from rfl]
    have hE1 : Eqx [897, 898, 899, 900, 901] [16, 17, 18, 19] σ (pS (pS σq 897 (nI m)) 898 (nI r)) := (hE.pS (by simp) _).pS (by simp) _
    refine C_X8_fits_81 K (by omega) (m_go hWf (by omega) (hT.keep hE1 (by decide) (by decide)) hO h2 ho.1 ho.2.1 (me := m) (la := r) rfl (by omega) rfl (by omega) (Nat.two_pow_pos _)) (fun v σ' hp => ?_)
    obtain ⟨rfl, p1, p2⟩ := hp
    rw [goW_0] at p1
    have hE' := hE1.tr (p2.mono (by simp) (by simp))
    have hT' : TC t σ' := hT.keep hE' (by decide) (by decide)
    refine R_X8_fits_84 K (A_X8_fits_94 hj K (R_X8_fits_95 hj K ?_))
    have kx : 64 * (2 + j) + 1 ∉ [897, 898, 899, 900, 901] := by simp; omega
    have ax : 6 + j ∉ [16, 17, 18, 19] := by simp; omega
    refine C_X8_fits_96 hj K (by omega) (m_hasSeats (c := c) hWf hj hT'.2.2.2.2.1 hit (by rw [hE'.1 _ kx]; exact hl) hlen (fun i hi => by rw [hE'.2.1 _ ax]; exact hc i hi) hp (by omega)) (go_I ?_)
    have er : (3 * m + r) / 3 = m ∧ (3 * m + r) % 3 = r := by omega
    have ec : (chN (σ'.2.1 19) (fun q => c (p + q)) (tit t) = 0) ↔ fitB t c p (3 * m + r) = true := by
      unfold fitB
      rw [er.1, er.2, decide_eq_true_iff, chN_cong (f' := fun q => nI (vtS t m r (oW t) (op t) q).2.2.1) (g' := fun q => c (p + q)) (fun q hq => ⟨(p1 q hq).2.2.2, rfl⟩)]
    have ih := fitsC_inner hWf hd hj hT hO h2 hl hlen hc hp hm K fin k (r + 1) σ' (by omega) hE'
    rw [← Nat.add_assoc, ← bs_or] at ih
    have e3 : (1 : Int32) <<< ((3 * nI m + nI r) &&& 31) = nI (2 ^ (3 * m + r)) := by
      rw [show (3 : Int32) = nI 3 from rfl, pk_mul, nI_add, sh1 _ (by omega)]
    refine R_X8_fits_99 K (by omega) (fun z_ => ?_) (fun z_ => ?_)
    · by_cases y : chN (σ'.2.1 19) (fun q => c (p + q)) (tit t) = 0
      · rw [if_pos y] at z_
        exact absurd z_ (by decide)
      · rw [if_neg (fun z => y (ec.mpr z)), show (0 : Int32) = nI 0 from rfl, fa_or, Nat.or_zero] at ih
        rw [nI_1]
        exact ih
    · by_cases y : chN (σ'.2.1 19) (fun q => c (p + q)) (tit t) = 0
      · rw [if_pos (ec.mp y)] at ih
        rw [nI_1, e3]
        exact ih
      · rw [if_neg y] at z_
        exact absurd rfl z_
theorem fitsC_outer {κ : KT} {t : Tn} {j p len : Nat} {c : Nat → Int32} (hWf : Wf ω) (hd : 6 ≤ d) (hj : j < 4) (hT : TC t σ) (hO : TO t) (h2 : 2 ≤ tnp t) (hl : σ.1 (64 * (2 + j) + 1) = nI len) (hlen : len ≤ 80) (hc : ∀ i, i < len → σ.2.1 (6 + j) i = c i) (hp : p + tit t ≤ len) {post : Option Value → St → Prop} (K : Cm ω κ l yX8_fits cX8_fits 8 d (some .int) post)
    (fin : ∀ σ', Eqx [897, 898, 899, 900, 901] [16, 17, 18, 19] σ σ' → post (some (.int (nI (bs (fitB t c p) 12)))) σ') :
    ∀ k m σq, m + k = 4 → Eqx [897, 898, 899, 900, 901] [16, 17, 18, 19] σ σq → V ω κ 43 [(0, .ref (ω.2.2.1 0)), (1, .int (nI j)), (3, .int (nI p)), (5, .int (nI (bs (fitB t c p) (3 * m)))), (6, .int (nI m))] [] σq
  | 0, m, σq, h, hE => by
    obtain rfl : m = 4 := by omega
    exact R_X8_fits_43 K (fun _ => fin σq hE) (fun z_ => absurd (show nI 4 ≤ nI 4 from nI_le (Nat.le_refl _) (by omega)) z_)
  | k + 1, m, σq, h, hE => by
    have hge : ¬ (4 : Int32) ≤ nI m := fun z => absurd ((nI_leI (a := 4) (by decide) (by omega)).mp z) (by omega)
    refine R_X8_fits_43 K (fun z_ => absurd z_ hge) (fun _ => ?_)
    exact fitsC_inner hWf hd hj hT hO h2 hl hlen hc hp (by omega) K (fun σ' hE' => fitsC_outer hWf hd hj hT hO h2 hl hlen hc hp K fin k (m + 1) σ' (by omega) hE') 3 0 σq (by omega) hE
theorem c_fits {k sort i : Int32} (hWf : Wf ω) (hd : 6 ≤ d) (hA : AO a) (hR : RC a σ) : Sp ω l yX8_fits cX8_fits 8 (some .int) d [.ref (ω.2.2.1 0), .int k, .int sort, .int i] σ (PC (o_fits a k sort i).1 (o_fits a k sort i).2 σ) := by
  refine Sp.of (by decide) (Nat.le_of_ble_eq_true rfl) hWf (fun κ K => R_X8_fits_0 K ?_)
  have hnp := hA.1.1
  rw [hR.1.2.2.2.2.1]
  refine C_X8_fits_11 K (by omega) (c_why hWf (by omega) hA hR) (fun v σ' h => ?_)
  obtain ⟨rfl, hR', hE'⟩ := h
  refine R_X8_fits_14 K (by omega) (fun h0 h1 => ?_) (fun h0 h1 => ?_) (fun h0 => ?_)
  · obtain ⟨w1, j, so, len, c, p, q, hj, rfl, w2, rfl, rfl, w3, w4, w5⟩ := why_0 hA h0
    rw [w1] at hR'
    have h1 := tw1 (n := tnp (att a)) (by rw [hR'.1.1] at h1; exact h1)
    have h2 := hA.1.two h1
    have hit := hA.1.2.2.2.2.1
    have hq : tit (att a) = q := (nI_eq (by omega) (by omega)).mp w3
    subst hq
    rcases shC_row hR' hj hA with ⟨r1, r2⟩ | ⟨s1, n1, c1, r1, r2, r3, r4, r5, r6, r7⟩
    · rw [show ash (setFl a 0) j = ash a j from rfl, w2] at r1
      cases r1
    · rw [show ash (setFl a 0) j = ash a j from rfl, w2] at r1
      cases r1
      have ho : o_fits a (nI j) (nI so) (nI p) = (nI (bs (fitB (att a) c p) 12), setFl a 0) := by
        unfold o_fits
        rw [if_pos h0, if_neg h1, nI_clamp (by omega), nI_clamp (by omega), w2]
        rfl
      rw [ho] at K
      exact fitsC_outer (t := att a) hWf hd hj hR'.1 hA.1 h2 r4 r3 r6 (by omega) K (fun σ2 hE2 => PC.at rfl (hR'.keep hE2 (by decide) (by decide)) (hE'.tr (EC.of hE2 (by decide) (by decide)))) 4 0 σ' (by omega) Eqx.rf
  · obtain ⟨w1, -⟩ := why_0 hA h0
    rw [w1] at hR'
    have hz : tnp (att a) = 0 := tw0 (by omega) (by rw [hR'.1.1] at h1; exact h1)
    have ho : o_fits a k sort i = (-3, setFl a 0) := by
      unfold o_fits
      rw [if_pos h0, if_pos hz]
    rw [ho]
    exact PC.at rfl hR' hE'
  · have ho : o_fits a k sort i = o_why a k sort i (nI (tit (att a))) := by
      unfold o_fits
      rw [if_neg h0]
    rw [ho]
    exact PC.at rfl hR' hE'
theorem div3 : ∀ r, r < 12 → nI r / 3 = nI (r / 3) ∧ nI r - nI r / 3 * 3 = nI (r % 3) := by decide +kernel
theorem fitsM_count {κ : KT} {n b r : Nat} {s : Int32} (h51 : σ.1 2251 = nI n) (hn : n ≤ 6) (hb : b + n ≤ 320) {post : Option Value → St → Prop} (K : Cm ω κ l yX9_fits cX9_fits 10 d (some .int) post)
    (kk : V ω κ 84 [(0, .ref (ω.2.2.1 35)), (5, .int (nI b)), (6, .int (s ||| (if chN (σ.2.1 47) (fun q => σ.2.1 38 (b + q)) n = 0 then (1 : Int32) <<< (nI r &&& 31) else 0))), (7, .int (nI (r + 1)))] [] σ) :
    ∀ k q, q + k = n → V ω κ 129 [(0, .ref (ω.2.2.1 35)), (5, .int (nI b)), (6, .int s), (7, .int (nI r)), (8, .int (if chN (σ.2.1 47) (fun q => σ.2.1 38 (b + q)) q = 0 then 1 else 0)), (9, .int (nI q))] [] σ
  | 0, q, h => by
    obtain rfl : q = n := by omega
    have hle : σ.1 2251 ≤ nI q := by rw [h51]; exact nI_le (Nat.le_refl _) (by omega)
    refine R_X9_fits_129 K (fun _ => ?_) (fun z_ => absurd hle z_) (fun z_ => absurd hle z_) (fun z_ => absurd hle z_)
    rw [nI_1]
    by_cases y : chN (σ.2.1 47) (fun q => σ.2.1 38 (b + q)) q = 0
    · rw [if_pos y] at kk ⊢
      rw [if_neg (by decide)]
      exact kk
    · rw [if_neg y] at kk ⊢
      rw [if_pos rfl]
      exact kk
  | k + 1, q, h => by
    have hge : ¬ σ.1 2251 ≤ nI q := by
      rw [h51]
      exact fun z => absurd ((nI_leI (by omega) (by omega)).mp z) (by omega)
    have ih := fitsM_count h51 hn hb K kk k (q + 1) (by omega)
    refine R_X9_fits_129 K (fun z_ => absurd z_ hge) (fun _ _ => vp_in_nI (by omega) (by omega)) (fun _ _ => by rw [nI_add]; exact vp_in_nI (by omega) (by omega)) (fun _ => ?_)
    rw [nI_1, nI_add, nI_clamp (by omega), nI_clamp (by omega)]
    have e : (if (if chN (σ.2.1 47) (fun q => σ.2.1 38 (b + q)) q = 0 then (1 : Int32) else 0) = 0 then (0 : Int32) else (if σ.2.1 47 q = σ.2.1 38 (b + q) then 1 else 0)) = (if chN (σ.2.1 47) (fun q => σ.2.1 38 (b + q)) (q + 1) = 0 then 1 else 0) := by
      rw [chN]
      by_cases y : chN (σ.2.1 47) (fun q => σ.2.1 38 (b + q)) q = 0
      · rw [if_pos y, if_neg (by decide), y]
        by_cases z : σ.2.1 47 q = σ.2.1 38 (b + q)
        · rw [if_pos z, if_pos z, if_pos (by omega)]
        · rw [if_neg z, if_neg z, if_neg (by omega)]
      · rw [if_neg y, if_pos rfl, if_neg (by omega)]
    rw [e]
    exact ih
theorem layM_2 (σ : St) (np me la a1 a2 : Nat) : pS (pS (pS (pS (pS (pS (pS σ 2258 (nI (2 ^ np - 1))) 2259 0) 2260 (nI (np - 1))) 2261 (nI a1)) 2262 (nI a2)) 2261 (nI me)) 2262 (nI la) = layM σ np me la := by
  unfold layM
  rw [pS_swap _ (by decide) (nI a2) (nI me), pS_over, pS_over]
theorem fitsM_loop {κ : KT} {j p len : Nat} {c : Nat → Int32} (hWf : Wf ω) (hd : 6 ≤ d) (hj : j < 4) (hT : TM (att a) σ) (hO : TO (att a)) (h2 : 2 ≤ tnp (att a)) (hlen : len ≤ 80) (hc : ∀ i, i < len → σ.2.1 38 (80 * j + i) = c i) (hp : p + tit (att a) ≤ len) {post : Option Value → St → Prop} (K : Cm ω κ l yX9_fits cX9_fits 10 d (some .int) post)
    (fin : ∀ σ', Eqx kAll [44, 45, 46, 47] σ σ' → post (some (.int (nI (bs (fitB (att a) c p) 12)))) σ') :
    ∀ k r σq, r + k = 12 → Eqx kAll [44, 45, 46, 47] σ σq → V ω κ 84 [(0, .ref (ω.2.2.1 35)), (5, .int (nI (80 * j + p))), (6, .int (nI (bs (fitB (att a) c p) r))), (7, .int (nI r))] [] σq
  | 0, r, σq, h, hE => by
    obtain rfl : r = 12 := by omega
    exact R_X9_fits_84 K (by omega) (fun _ => fin σq hE) (fun z_ => absurd (show nI 12 ≤ nI 12 from nI_le (Nat.le_refl _) (by omega)) z_)
  | k + 1, r, σq, h, hE => by
    have hnp := hO.1
    have hit := hO.2.2.2.2.1
    have hTq : TM (att a) σq := hT.keep hE (by decide) (by decide)
    have hge : ¬ (12 : Int32) ≤ nI r := fun z => absurd ((nI_leI (a := 12) (by decide) (by omega)).mp z) (by omega)
    refine R_X9_fits_84 K (by omega) (fun z_ => absurd z_ hge) (fun _ => ?_)
    obtain ⟨d1, d2⟩ := div3 r (by omega)
    have e1 : nI (tnp (att a)) - 1 = nI (tnp (att a) - 1) := by rw [show (1 : Int32) = nI 1 from rfl, pk_sub (by omega)]
    rw [hTq.1, hTq.2.2.1, hTq.2.2.2.1, hTq.2.2.2.2.1, nI_all hnp, e1, d2, d1, layM_2]
    have hE1 := layM_E σq (tnp (att a)) (r / 3) (r % 3)
    have hT1 : TM (att a) (layM σq (tnp (att a)) (r / 3) (r % 3)) := hTq.keep hE1 (by decide) (by decide)
    have ho := op_ok h2
    refine C_X9_fits_120 K (by omega) (m_goRun (row := tag (att a)) rfl (by decide) hit (fun q hq => ⟨hT1.2.2.2.2.2.2.2 q hq, hO.2.2.2.2.2.2.1 q hq⟩) hWf (by omega) hT1 hO h2 (layM_MM h2 σq _ _) ho.1 ho.2.1 rfl (by omega) rfl (by omega)) (fun v σ' hp' => ?_)
    obtain ⟨rfl, -, p2, p3⟩ := hp'
    have hE' : Eqx kAll [44, 45, 46, 47] σ σ' := (hE.tr (hE1.mono (by decide) (by decide))).tr (p3.mono (by decide) (by decide))
    have hT' : TM (att a) σ' := hT.keep hE' (by decide) (by decide)
    refine R_X9_fits_123 K ?_
    refine fitsM_count (b := 80 * j + p) (r := r) hT'.2.2.2.2.1 hit (by omega) K ?_ (tit (att a)) 0 (by omega)
    have ec : (chN (σ'.2.1 47) (fun q => σ'.2.1 38 (80 * j + p + q)) (tit (att a)) = 0) ↔ fitB (att a) c p r = true := by
      unfold fitB
      rw [decide_eq_true_iff, chN_cong (f' := fun q => nI (vtS (att a) (r / 3) (r % 3) (oW (att a)) (op (att a)) q).2.2.1) (g' := fun q => c (p + q)) (fun q hq => ⟨(p2 q hq).2.2.2, by rw [hE'.2.1 38 (by decide), Nat.add_assoc]; exact hc _ (by omega)⟩)]
    have ih := fitsM_loop hWf hd hj hT hO h2 hlen hc hp K fin k (r + 1) σ' (by omega) hE'
    rw [← bs_or] at ih
    rw [sh1 r (by omega)]
    by_cases y : fitB (att a) c p r = true
    · rw [if_pos y] at ih
      rw [if_pos (ec.mpr y)]
      exact ih
    · rw [if_neg y] at ih
      rw [if_neg (fun z => y (ec.mp z))]
      exact ih
theorem d_fits {k sort i : Int32} (hWf : Wf ω) (hd : 6 ≤ d) (hA : AO a) (hR : RM a σ) : Sp ω l yX9_fits cX9_fits 10 (some .int) d [.ref (ω.2.2.1 35), .int k, .int sort, .int i] σ (PM (o_fits a k sort i).1 (o_fits a k sort i).2 σ) := by
  have h9 := hR.fl 0
  have hE : EM σ (pS σ 2240 0) := EM.rf.s (by decide) _
  have hov : ∀ w, pS (pS σ 2240 0) 2240 w = pS σ 2240 w := fun w => pS_over σ 2240 0 w
  have hnp := hA.1.1
  have hit := hA.1.2.2.2.2.1
  refine Sp.of (by decide) (Nat.le_of_ble_eq_true rfl) hWf (fun κ K => ?_)
  by_cases h0 : (if k < 0 then (0 : Int32) else (if 3 < k then 0 else 1)) = 0
  · have hw : o_why a k sort i (nI (tit (att a))) = (-1, setFl a 0) := by unfold o_why; simp only [rgm0 (n := 3) (by decide) h0]
    have ho : o_fits a k sort i = (-1, setFl a 0) := by unfold o_fits; rw [hw]; exact if_neg (show ¬ (-1 : Int32) = 0 by decide)
    rw [ho] at K
    exact R_X9_fits_0 K (by omega) (fun q_ => absurd h0 q_) (fun q_ => absurd h0 q_) (fun q_ => absurd h0 q_) (fun q_ => absurd h0 q_) (fun q_ => absurd h0 q_) (fun q_ => absurd h0 q_) (fun q_ => absurd h0 q_) (fun q_ => absurd h0 q_) (fun q_ => absurd h0 q_) (fun q_ => absurd h0 q_) (fun q_ => absurd h0 q_) (fun q_ => absurd h0 q_) (fun _ => PM.at rfl h9 hE)
  obtain ⟨j, hj, rfl, e⟩ := rgm1 (n := 3) (by decide) h0
  have hj : j < 4 := by omega
  have hin : vp_in (nI j) 4 := vp_in_nI (by omega) (by omega)
  have hcl : (nI j).toNatClampNeg = j := nI_clamp (by omega)
  by_cases h1 : (if sort < 0 then (0 : Int32) else (if 2 < sort then 0 else 1)) = 0
  · have hw : o_why a (nI j) sort i (nI (tit (att a))) = (-2, setFl a 0) := by unfold o_why; simp only [e, rgm0 (n := 2) (by decide) h1]
    have ho : o_fits a (nI j) sort i = (-2, setFl a 0) := by unfold o_fits; rw [hw]; exact if_neg (show ¬ (-2 : Int32) = 0 by decide)
    rw [ho] at K
    exact R_X9_fits_0 K (by omega) (fun _ q_ => absurd h1 q_) (fun _ q_ => absurd h1 q_) (fun _ q_ => absurd h1 q_) (fun _ q_ => absurd h1 q_) (fun _ q_ => absurd h1 q_) (fun _ q_ => absurd h1 q_) (fun _ q_ => absurd h1 q_) (fun _ q_ => absurd h1 q_) (fun _ q_ => absurd h1 q_) (fun _ q_ => absurd h1 q_) (fun _ q_ => absurd h1 q_) (fun _ _ => PM.at rfl h9 hE) (fun q_ => absurd q_ h0)
  obtain ⟨s, hs, rfl, e2⟩ := rgm1 (n := 2) (by decide) h1
  have eN : (if (if σ.1 2245 ≤ 0 then (0 : Int32) else 1) = 0 then (0 : Int32) else σ.1 2251) = nI (tit (att a)) := by
    rw [hR.1.1, hR.1.2.2.2.2.1]
    by_cases z : (if nI (tnp (att a)) ≤ 0 then (0 : Int32) else 1) = 0
    · have := hA.1.2.2.2.2.2.2.2.2
      have hz := tw0 (by omega) z
      rw [if_pos z, show tit (att a) = 0 by omega]
      rfl
    · rw [if_neg z]
  have hag : agM (σ.2.1 36 (nI j).toNatClampNeg) (σ.2.1 37 (nI j).toNatClampNeg) (nI s) i (if (if σ.1 2245 ≤ 0 then (0 : Int32) else 1) = 0 then (0 : Int32) else σ.1 2251) = nI (kindS (ash a j) (nI s) i (nI (tit (att a)))) := by rw [eN, hcl]; exact agM_kind hR hj hA
  have hw := why_of (a := a) (i := i) (n := nI (tit (att a))) hj hs rfl
  refine R_X9_fits_0 K (by omega) (fun _ _ => hin) (fun _ _ _ => hin) (fun _ _ _ _ _ _ => hin) (fun _ _ _ _ _ _ _ => hin) (fun _ _ _ => hin) (fun _ _ _ _ => hin) (fun _ _ _ _ _ _ _ => hin) (fun _ _ _ _ _ _ _ _ => hin) (fun _ _ z_ t_ => ?_) (fun _ _ z_ t_ => ?_) (fun _ _ z_ => ?_) (fun _ q_ => absurd q_ h1) (fun q_ => absurd q_ h0)
  · have z : agM (σ.2.1 36 (nI j).toNatClampNeg) (σ.2.1 37 (nI j).toNatClampNeg) (nI s) i (if (if σ.1 2245 ≤ 0 then (0 : Int32) else 1) = 0 then (0 : Int32) else σ.1 2251) = 0 := z_
    rw [hag] at z
    have hk0 : kindS (ash a j) (nI s) i (nI (tit (att a))) = 0 := (nI_eq (b := 0) (by have := kindS_le (ash a j) (nI s) i (nI (tit (att a))); omega) (by decide)).mp z
    have h00 : (o_why a (nI j) (nI s) i (nI (tit (att a)))).1 = 0 := by rw [hw, if_pos hk0]
    obtain ⟨w1, j', so, len, c, p, q, hj', wj, w2, ws, rfl, w3, w4, w5⟩ := why_0 hA h00
    have hjj : j = j' := (nI_eq (by omega) (by omega)).mp wj
    subst hjj
    have h3 := tw1 (n := tnp (att a)) (by rw [hR.1.1] at t_; exact t_)
    have h2 := hA.1.two h3
    have hq : tit (att a) = q := (nI_eq (by omega) (by omega)).mp w3
    subst hq
    rcases shM_row h9 hj hA with ⟨r1, r2⟩ | ⟨s1, n1, c1, r1, r2, r3, r4, r5, r6, r7⟩
    · rw [show ash (setFl a 0) j = ash a j from rfl, w2] at r1
      cases r1
    · rw [show ash (setFl a 0) j = ash a j from rfl, w2] at r1
      cases r1
      have ho : o_fits a (nI j) (nI s) (nI p) = (nI (bs (fitB (att a) c p) 12), setFl a 0) := by
        unfold o_fits
        rw [if_pos h00, if_neg h3, nI_clamp (by omega), nI_clamp (by omega), w2]
        rfl
      rw [ho] at K
      rw [show (80 : Int32) * nI j + nI p = nI (80 * j + p) by rw [show (80 : Int32) = nI 80 from rfl, pk_mul, nI_add]]
      exact fitsM_loop (a := a) hWf hd hj h9.1 hA.1 h2 r3 r6 (by omega) K (fun σ2 hE2 => PM.at rfl (h9.keep hE2 (by decide) (by decide)) (hE.tr (EM.of hE2 (by decide) (by decide)))) 12 0 _ (by omega) Eqx.rf
  · have z : agM (σ.2.1 36 (nI j).toNatClampNeg) (σ.2.1 37 (nI j).toNatClampNeg) (nI s) i (if (if σ.1 2245 ≤ 0 then (0 : Int32) else 1) = 0 then (0 : Int32) else σ.1 2251) = 0 := z_
    rw [hag] at z
    have hk0 : kindS (ash a j) (nI s) i (nI (tit (att a))) = 0 := (nI_eq (b := 0) (by have := kindS_le (ash a j) (nI s) i (nI (tit (att a))); omega) (by decide)).mp z
    have h00 : (o_why a (nI j) (nI s) i (nI (tit (att a)))).1 = 0 := by rw [hw, if_pos hk0]
    have hz : tnp (att a) = 0 := tw0 (by omega) (by rw [hR.1.1] at t_; exact t_)
    have ho : o_fits a (nI j) (nI s) i = (-3, setFl a 0) := by
      unfold o_fits
      rw [if_pos h00, if_pos hz]
    rw [ho]
    exact PM.at rfl h9 hE
  · have z : ¬ agM (σ.2.1 36 (nI j).toNatClampNeg) (σ.2.1 37 (nI j).toNatClampNeg) (nI s) i (if (if σ.1 2245 ≤ 0 then (0 : Int32) else 1) = 0 then (0 : Int32) else σ.1 2251) = 0 := z_
    show PM _ _ σ (some (.int (-10 - agM (σ.2.1 36 (nI j).toNatClampNeg) (σ.2.1 37 (nI j).toNatClampNeg) (nI s) i (if (if σ.1 2245 ≤ 0 then (0 : Int32) else 1) = 0 then (0 : Int32) else σ.1 2251)))) (pS (pS σ 2240 0) 2240 (agM (σ.2.1 36 (nI j).toNatClampNeg) (σ.2.1 37 (nI j).toNatClampNeg) (nI s) i (if (if σ.1 2245 ≤ 0 then (0 : Int32) else 1) = 0 then (0 : Int32) else σ.1 2251)))
    rw [hag] at z ⊢
    have hk0 : ¬ kindS (ash a j) (nI s) i (nI (tit (att a))) = 0 := fun y_ => z (by rw [y_]; rfl)
    rw [if_neg hk0] at hw
    have hk4 := kindS_le (ash a j) (nI s) i (nI (tit (att a)))
    have ho : o_fits a (nI j) (nI s) i = (-10 - nI (kindS (ash a j) (nI s) i (nI (tit (att a)))), setFl a (nI (kindS (ash a j) (nI s) i (nI (tit (att a)))))) := by
      unfold o_fits
      rw [hw]
      exact if_neg (neg10 hk4)
    rw [ho, hov]
    exact PM.at rfl (hR.fl _) (EM.rf.s (by decide) _)
end FITS
