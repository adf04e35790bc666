/-! ===== ever, often: the calls ===== -/
section RING2
variable {ω : WT} {l : Launch} {d : Nat} {a : Ab} {σ : St}
def ofS (t : Tn) (q r : Nat) : Nat → Nat
  | 0 => 0
  | n + 1 => ofS t q r n + (if (vtS t (tme t) (tla t) (oW t) (bgS t (r + n)) q).2.1 = 1 then 1 else 0)
theorem ofS_le (t : Tn) (q r : Nat) : ∀ n, ofS t q r n ≤ n
  | 0 => Nat.le_refl _
  | n + 1 => by
    have := ofS_le t q r n
    rw [ofS]
    split <;> omega
theorem times_loop {κ : KT} {t : Tn} {q r n : Nat} (hWf : Wf ω) (hd : 5 ≤ d) (hT : TC t σ) (hO : TO t) (h2 : 2 ≤ tnp t) (hme : σ.1 897 = nI (tme t)) (hla : σ.1 898 = nI (tla t)) (hq : q < tit t) (h49 : σ.1 1349 = nI n) (hn : n ≤ 256)
    (K : Cm ω κ l yX5_timesWonByYes cX5_timesWonByYes 5 d (some .int) (fun v σ' => v = some (.int (nI (ofS t q r n))) ∧ Eqx [899, 900, 901] [16, 17, 18, 19] σ σ')) :
    ∀ k i σq, i + k = n → Eqx [899, 900, 901] [16, 17, 18, 19] σ σq → V ω κ 10 [(0, .ref (ω.2.2.1 21)), (1, .int (nI q)), (2, .int (nI (ofS t q r i))), (3, .int (mI (bgS t (r + i)))), (4, .int (nI i))] [] σq
  | 0, i, σq, h, hE => by
    obtain rfl : i = n := by omega
    have hle : σq.1 1349 ≤ nI i := by rw [hE.1 1349 (by decide), h49]; exact nI_le (Nat.le_refl _) (by omega)
    exact R_X5_timesWonByYes_10 K (fun _ => ⟨rfl, hE⟩) (fun z_ => absurd hle z_)
  | k + 1, i, σq, h, hE => by
    have hit := hO.2.2.2.2.1
    have hge : ¬ σq.1 1349 ≤ nI i := by
      rw [hE.1 1349 (by decide), h49]
      exact fun z => absurd ((nI_leI (by omega) (by omega)).mp z) (by omega)
    refine R_X5_timesWonByYes_10 K (fun z_ => absurd z_ hge) (fun _ => ?_)
    have hG := bgS_ok hO h2 (r + i)
    rw [show (0 : Int32) = nI 0 from rfl]
    refine C_X5_timesWonByYes_25 K (by omega) (m_go hWf (by omega) (hT.keep hE (by decide) (by decide)) hO h2 hG.1 hG.2.1 (me := tme t) (la := tla t) ((hE.1 897 (by decide)).trans hme) hO.2.2.1 ((hE.1 898 (by decide)).trans hla) hO.2.2.2.1 (Nat.two_pow_pos _)) (fun v σ' hp => ?_)
    obtain ⟨rfl, q1, q2⟩ := hp
    rw [goW_0] at q1 ⊢
    have hv := (q1 q hq).2.2.1
    have ih := times_loop hWf hd hT hO h2 hme hla hq h49 hn K k (i + 1) σ' (by omega) (hE.tr q2)
    rw [ofS] at ih
    refine R_X5_timesWonByYes_28 K (vp_in_nI (by omega) (by omega)) (fun z_ => ?_) (fun z_ => ?_)
    · rw [nI_clamp (by omega), hv] at z_
      rw [if_neg z_] at ih
      rw [nI_1]
      exact ih
    · rw [nI_clamp (by omega), hv] at z_
      rw [if_pos z_] at ih
      rw [nI_1, nI_1]
      exact ih
theorem m_times {t : Tn} {q r n : Nat} (hWf : Wf ω) (hd : 5 ≤ d) (hT : TC t σ) (hO : TO t) (h2 : 2 ≤ tnp t) (hme : σ.1 897 = nI (tme t)) (hla : σ.1 898 = nI (tla t)) (hq : q < tit t) (h47 : σ.1 1347 = mI (bgS t r)) (h49 : σ.1 1349 = nI n) (hn : n ≤ 256) : Sp ω l yX5_timesWonByYes cX5_timesWonByYes 5 (some .int) d [.ref (ω.2.2.1 21), .int (nI q)] σ (fun v σ' => v = some (.int (nI (ofS t q r n))) ∧ Eqx [899, 900, 901] [16, 17, 18, 19] σ σ') := by
  refine Sp.of (by decide) (Nat.le_of_ble_eq_true rfl) hWf (fun κ K => R_X5_timesWonByYes_0 K ?_)
  rw [h47]
  exact times_loop hWf hd hT hO h2 hme hla hq h49 hn K n 0 σ (by omega) Eqx.rf
noncomputable def o_ever (a : Ab) (w : Int32) : Int32 := match ix w 2 with
  | none => -2
  | some j => if tnp (att a) = 0 then -3 else if j = 0 then nI (rgS (att a)).2 else nI ((rgS (att a)).1 - (rgS (att a)).2)
noncomputable def o_often (a : Ab) (m : Int32) : Int32 := match ix m (tnm (att a)) with
  | none => -1
  | some j => match plc (tag (att a)) j (tit (att a)) with
    | none => 0
    | some q => nI (ofS (att a) q (rgS (att a)).1 ((rgS (att a)).1 - (rgS (att a)).2))
theorem ever_end {j : Nat} (h0 : ¬ tnp (att a) = 0) (hj : j < 2) : o_ever a (nI j) = if nI j = 0 then nI (rgS (att a)).2 else nI ((rgS (att a)).1 - (rgS (att a)).2) := by
  unfold o_ever
  rw [ix_n hj (by decide)]
  simp only
  rw [if_neg h0]
  by_cases z : j = 0
  · rw [if_pos z, if_pos (by rw [z]; rfl)]
  · have nz : ¬ nI j = 0 := fun q_ => z ((nI_eq (b := 0) (by omega) (by decide)).mp q_)
    rw [if_neg z, if_neg nz]
theorem c_ever {w : Int32} (hWf : Wf ω) (hd : 6 ≤ d) (hA : AO a) (hR : RC a σ) : Sp ω l yX8_ever cX8_ever 2 (some .int) d [.ref (ω.2.2.1 0), .int w] σ (PC (o_ever a w) a σ) := by
  refine Sp.of (by decide) (Nat.le_of_ble_eq_true rfl) hWf (fun κ K => ?_)
  have hnp := hA.1.1
  rcases ix_cases w 2 (by decide) with ⟨e, h⟩ | ⟨j, hj, rfl, e⟩
  · have ho : o_ever a w = -2 := by simp only [o_ever, e]
    rw [ho] at K
    have hno : ¬ w < 0 → ¬ w ≤ 1 := fun z1 z2 => by
      rcases h with h | h
      · exact z1 h
      · have : nI 2 ≤ nI 1 := Int32.le_trans h z2
        exact absurd ((nI_leI (by decide) (by decide)).mp this) (by decide)
    exact R_X8_ever_0 K (by omega) (fun _ => PC.at rfl hR EC.rf) (fun z1_ z2_ => absurd z2_ (hno z1_)) (fun z1_ z2_ => absurd z2_ (hno z1_)) (fun _ _ => PC.at rfl hR EC.rf)
  · have hn : ¬ nI j < 0 := nI_pos (by omega)
    have hle : nI j ≤ 1 := (nI_leI (b := 1) (by omega) (by decide)).mpr (by omega)
    refine R_X8_ever_0 K (by omega) (fun z_ => absurd z_ hn) (fun _ _ h0 => ?_) (fun _ _ h0 => ?_) (fun _ z_ => absurd hle z_)
    · rw [hR.1.1] at h0
      have h1 := tw1 h0
      have h2 := hA.1.two h1
      rw [ever_end h1 hj] at K
      rw [hR.1.2.2.1, hR.1.2.2.2.1]
      have hE1 : Eqx [897, 898] [] σ (pS (pS σ 897 (nI (tme (att a)))) 898 (nI (tla (att a)))) := (Eqx.rf.pS (by simp) _).pS (by simp) _
      refine C_X8_ever_36 K (by omega) (m_find hWf (by omega) (hR.1.keep hE1 (by decide) (by decide)) hA.1 h2 rfl rfl (rgS_ok hA.1 h2)) (fun v σ' hp => ?_)
      obtain ⟨rfl, -, q2, q3, q4⟩ := hp
      have hE2 : Eqx [897, 898, 899, 900, 901, 1347, 1348, 1349] [16, 17, 18, 19, 22] σ σ' := (hE1.mono (by simp) (by simp)).tr (q4.mono (by simp) (by simp))
      refine R_X8_ever_39 K ?_
      rw [q2, q3]
      exact PC.at rfl (hR.keep hE2 (by decide) (by decide)) (EC.of hE2 (by decide) (by decide))
    · rw [hR.1.1] at h0
      have ho : o_ever a (nI j) = -3 := by
        unfold o_ever
        rw [e]
        simp only
        rw [if_pos (tw0 (by omega) h0)]
      rw [ho]
      exact PC.at rfl hR EC.rf
theorem c_often {m : Int32} (hWf : Wf ω) (hd : 6 ≤ d) (hA : AO a) (hR : RC a σ) : Sp ω l yX8_often cX8_often 3 (some .int) d [.ref (ω.2.2.1 0), .int m] σ (PC (o_often a m) a σ) := by
  refine Sp.of (by decide) (Nat.le_of_ble_eq_true rfl) hWf (fun κ K => ?_)
  have hit := hA.1.2.2.2.2.1
  have hnm := hA.1.2.1
  refine R_X8_often_0 K (by omega) (fun h0 => ?_) (fun h0 => ?_)
  · rw [hR.1.2.1] at h0
    obtain ⟨j, hj, rfl, e⟩ := rg1 (by omega) h0
    refine C_X8_often_18 K (by omega) (m_placeOfC hWf hR.1 hA.1 (by omega)) (go_I ?_)
    cases ep : plc (tag (att a)) j (tit (att a)) with
    | none =>
      have ho : o_often a (nI j) = 0 := by simp only [o_often, e, ep]
      rw [ho] at K
      exact R_X8_often_21 K (by omega) (fun z_ => absurd z_ (by decide)) (fun _ => PC.at rfl hR EC.rf)
    | some q =>
      obtain ⟨hq, -⟩ := plc_some ep
      have h2 := hA.1.two_q hq
      have hP := rgS_ok hA.1 h2
      have ho : o_often a (nI j) = nI (ofS (att a) q (rgS (att a)).1 ((rgS (att a)).1 - (rgS (att a)).2)) := by simp only [o_often, e, ep]
      rw [ho] at K
      refine R_X8_often_21 K (by omega) (fun _ => ?_) (fun z_ => absurd (Int32.not_lt.mp (nI_pos (by omega : q < 2 ^ 31))) z_)
      rw [hR.1.2.2.1, hR.1.2.2.2.1]
      have hE1 : Eqx [897, 898] [] σ (pS (pS σ 897 (nI (tme (att a)))) 898 (nI (tla (att a)))) := (Eqx.rf.pS (by simp) _).pS (by simp) _
      refine C_X8_often_39 K (by omega) (m_find hWf (by omega) (hR.1.keep hE1 (by decide) (by decide)) hA.1 h2 rfl rfl hP) (fun v σ' hp => ?_)
      obtain ⟨rfl, q1, q2, q3, q4⟩ := hp
      have hE2 : Eqx [897, 898, 899, 900, 901, 1347, 1348, 1349] [16, 17, 18, 19, 22] σ σ' := (hE1.mono (by simp) (by simp)).tr (q4.mono (by simp) (by simp))
      refine R_X8_often_42 K ?_
      have hR' := hR.keep hE2 (by decide) (by decide)
      have hb := hP.2.1
      refine C_X8_often_47 K (by omega) (m_times hWf (by omega) hR'.1 hA.1 h2 ((q4.1 897 (by decide)).trans rfl) ((q4.1 898 (by decide)).trans rfl) hq q1 q3 (by omega)) (fun v σ2 hp => ?_)
      obtain ⟨rfl, q5⟩ := hp
      refine R_X8_often_50 K ?_
      exact PC.at rfl (hR'.keep q5 (by decide) (by decide)) ((EC.of hE2 (by decide) (by decide)).tr (EC.of q5 (by decide) (by decide)))
  · rw [hR.1.2.1] at h0
    have ho : o_often a m = -1 := by simp only [o_often, rg0 (by omega) h0]
    rw [ho]
    exact PC.at rfl hR EC.rf
/-! the model -/
def cdN (m : Nat × Nat) : Nat := (if m.1 = 0 then 256 else m.1) * 8 + m.2
theorem cdN_inj {m m' : Nat × Nat} (h1 : m.1 < 256) (h2 : m.2 < 8) (h1' : m'.1 < 256) (h2' : m'.2 < 8) (e : cdN m = cdN m') : m = m' := by
  unfold cdN at e
  have e1 : m.2 = m'.2 := by omega
  refine Prod.ext ?_ e1
  by_cases z : m.1 = 0
  · by_cases z' : m'.1 = 0
    · omega
    · rw [if_pos z, if_neg z'] at e; omega
  · by_cases z' : m'.1 = 0
    · rw [if_neg z, if_pos z'] at e; omega
    · rw [if_neg z, if_neg z'] at e; omega
theorem cdN_lt {m : Nat × Nat} (h1 : m.1 < 256) (h2 : m.2 < 8) : cdN m < 4096 := by
  unfold cdN
  split <;> omega
theorem cdI {m : Nat × Nat} (hM : MM m σ) : (if σ.1 2259 = 0 then σ.1 2258 else 256) * 8 + σ.1 2260 = nI (cdN m) := by
  unfold cdN
  by_cases z : m.1 = 0
  · rw [hM.2.1 z, hM.1, if_neg (by decide), if_pos z, show (256 : Int32) = nI 256 from rfl, show (8 : Int32) = nI 8 from rfl, pk_mul, nI_add]
  · rw [(hM.2.2 z).1, (hM.2.2 z).2, hM.1, if_pos rfl, if_neg z, show (8 : Int32) = nI 8 from rfl, pk_mul, nI_add]
theorem bg_b {t : Tn} (hO : TO t) (h2 : 2 ≤ tnp t) (i : Nat) : (bgS t i).1 < 256 ∧ (bgS t i).2 < 8 := by
  have hp8 := p2_le8 hO.1
  have := bgS_ok hO h2 i
  have h1 := this.1
  have h2 := this.2.1
  have := hO.1
  omega
abbrev kRing : List Nat := [2258, 2259, 2260, 2261, 2262, 2263, 2264, 2265, 2266, 2272, 2273]
theorem ringM_loop {κ : KT} {t : Tn} {rj : Nat × Nat} (hWf : Wf ω) (hd : 5 ≤ d) (hT : TM t σ) (hO : TO t) (h2 : 2 ≤ tnp t) (hP : RgP t rj)
    (K : Cm ω κ l yX9_findRing cX9_findRing 2 d none (fun v σ' => v = none ∧ MM (bgS t rj.1) σ' ∧ σ'.1 2261 = nI (tme t) ∧ σ'.1 2262 = nI (tla t) ∧ σ'.1 2272 = nI rj.2 ∧ σ'.1 2273 = nI (rj.1 - rj.2) ∧ Eqx kRing [44, 45, 46, 47, 48] σ σ')) :
    ∀ k x σq, x + k = rj.1 → MM (bgS t x) σq → σq.1 2261 = nI (tme t) → σq.1 2262 = nI (tla t) → (∀ i, i < x → σq.2.1 48 (cdN (bgS t i)) = nI i) → (∀ s, s < 4096 → (∀ i, i < x → cdN (bgS t i) ≠ s) → σq.2.1 48 s = -9) → Eqx kRing [44, 45, 46, 47, 48] σ σq → V ω κ 29 [(0, .ref (ω.2.2.1 35)), (1, .int (nI x))] [] σq
  | 0, x, σq, h, hM, hme, hla, hi, hn, hE => by
    obtain rfl : x = rj.1 := by omega
    obtain ⟨p1, p2, p3, p4⟩ := hP
    have es := cdI hM
    have hb := bg_b hO h2 rj.1
    have hlt := cdN_lt hb.1 hb.2
    have hv : σq.2.1 48 (cdN (bgS t rj.1)) = nI rj.2 := by rw [← p3]; exact hi rj.2 p1
    have hne : ¬ nI rj.2 = -9 := fun z => absurd (show nI rj.2 < 0 by rw [z]; decide) (nI_pos (by omega))
    have K2 := R_X9_findRing_29 (σ := σq) (x1 := nI rj.1) K (by omega)
    rw [es, nI_clamp (by omega), hv] at K2
    have hE2 : Eqx [2272, 2273] [] σq (pS (pS σq 2272 (nI rj.2)) 2273 (nI rj.1 - nI rj.2)) := (Eqx.rf.pS (by simp) _).pS (by simp) _
    exact K2 (vp_in_nI (by omega) (by omega)) (fun _ => vp_in_nI (by omega) (by omega)) (fun _ => ⟨rfl, hM.keep hE2 (by decide), hme, hla, rfl, pk_sub (by omega), hE.tr (hE2.mono (by simp) (by simp))⟩) (fun z_ => absurd z_ hne) (fun z_ => absurd z_ hne)
  | k + 1, x, σq, h, hM, hme, hla, hi, hn, hE => by
    have hP' := hP
    obtain ⟨p1, p2, p3, p4⟩ := hP'
    have es := cdI hM
    have hb := bg_b hO h2 x
    have hlt := cdN_lt hb.1 hb.2
    have hTq : TM t σq := hT.keep hE (by decide) (by decide)
    have hG := bgS_ok hO h2 x
    have hv : σq.2.1 48 (cdN (bgS t x)) = -9 := hn _ hlt (fun i hi2 q => p4 i x hi2 (by omega) (cdN_inj (bg_b hO h2 i).1 (bg_b hO h2 i).2 hb.1 hb.2 q))
    have K2 := R_X9_findRing_29 (σ := σq) (x1 := nI x) K (by omega)
    rw [es, nI_clamp (by omega), hv] at K2
    refine K2 (vp_in_nI (by omega) (by omega)) (fun z_ => absurd rfl z_) (fun z_ => absurd rfl z_) (fun _ => vp_in_nI (by omega) (by omega)) (fun _ => ?_)
    have hE1 : Eqx [] [48] σq (pA σq 48 (cdN (bgS t x)) (nI x)) := Eqx.rf.pA (by simp) _ _
    rw [hTq.2.2.2.2.1]
    have hT1 : TM t (pA σq 48 (cdN (bgS t x)) (nI x)) := hTq.keep hE1 (by decide) (by decide)
    refine C_X9_findRing_62 K (by omega) (m_goRun (row := tag t) rfl (by decide) hO.2.2.2.2.1 (fun q hq => ⟨hT1.2.2.2.2.2.2.2 q hq, hO.2.2.2.2.2.2.1 q hq⟩) hWf (by omega) hT1 hO h2 (hM.keep hE1 (by decide)) hG.1 hG.2.1 (me := tme t) (la := tla t) hme hO.2.2.1 hla hO.2.2.2.1) (fun v σ' hp => ?_)
    obtain ⟨rfl, q1, -, q3⟩ := hp
    refine R_X9_findRing_65 K ?_
    rw [nI_1]
    have e48 : σ'.2.1 48 = upd (σq.2.1 48) (cdN (bgS t x)) (nI x) := (q3.2.1 48 (by decide)).trans rfl
    refine ringM_loop hWf hd hT hO h2 hP K k (x + 1) σ' (by omega) q1 ((q3.1 2261 (by decide)).trans hme) ((q3.1 2262 (by decide)).trans hla) (fun i hi2 => ?_) (fun s hs hs2 => ?_) ((hE.tr (hE1.mono (by simp) (by simp))).tr (q3.mono (by decide) (by decide)))
    · rw [e48]
      by_cases z : i = x
      · subst z; rw [pk_us]
      · rw [pk_un (fun q => p4 i x (by omega) (by omega) (cdN_inj (bg_b hO h2 i).1 (bg_b hO h2 i).2 hb.1 hb.2 q))]
        exact hi i (by omega)
    · rw [e48, pk_un (fun q => hs2 x (by omega) q.symm)]
      exact hn s hs (fun i hi2 => hs2 i (by omega))
theorem ringM_fill {κ : KT} {post : Option Value → St → Prop} (hd : 2 ≤ d) (K : Cm ω κ l yX9_findRing cX9_findRing 2 d none post)
    (fin : ∀ σ', Eqx [] [48] σ σ' → (∀ s, s < 4096 → σ'.2.1 48 s = -9) → V ω κ 29 [(0, .ref (ω.2.2.1 35)), (1, .int 0)] [] (pS (pS (pS (pS (pS σ' 2258 (((1 : Int32) <<< (σ'.1 2245 &&& 31)) - 1)) 2259 0) 2260 (σ'.1 2245 - 1)) 2261 (σ'.1 2249)) 2262 (σ'.1 2250))) :
    ∀ k x σq, x + k = 4096 → Eqx [] [48] σ σq → (∀ s, s < x → σq.2.1 48 s = -9) → V ω κ 2 [(0, .ref (ω.2.2.1 35)), (1, .int (nI x))] [] σq
  | 0, x, σq, h, hE, hs => by
    obtain rfl : x = 4096 := by omega
    exact R_X9_findRing_2 K hd (fun _ => fin σq hE hs) (fun z_ => absurd (show nI 4096 ≤ nI 4096 from nI_le (Nat.le_refl _) (by omega)) z_) (fun z_ => absurd (show nI 4096 ≤ nI 4096 from nI_le (Nat.le_refl _) (by omega)) z_)
  | k + 1, x, σq, h, hE, hs => by
    have hge : ¬ (4096 : Int32) ≤ nI x := fun z => absurd ((nI_leI (a := 4096) (by decide) (by omega)).mp z) (by omega)
    refine R_X9_findRing_2 K hd (fun z_ => absurd z_ hge) (fun _ => vp_in_nI (by omega) (by omega)) (fun _ => ?_)
    rw [nI_clamp (by omega), nI_1]
    refine ringM_fill hd K fin k (x + 1) _ (by omega) (hE.pA (by simp) _ _) (fun s hs2 => ?_)
    show upd (σq.2.1 48) x _ s = _
    by_cases z : s = x
    · subst z; rw [pk_us]
    · rw [pk_un z]; exact hs s (by omega)
theorem m_findRing {t : Tn} {rj : Nat × Nat} (hWf : Wf ω) (hd : 5 ≤ d) (hT : TM t σ) (hO : TO t) (h2 : 2 ≤ tnp t) (hP : RgP t rj) : Sp ω l yX9_findRing cX9_findRing 2 none d [.ref (ω.2.2.1 35)] σ (fun v σ' => v = none ∧ MM (bgS t rj.1) σ' ∧ σ'.1 2261 = nI (tme t) ∧ σ'.1 2262 = nI (tla t) ∧ σ'.1 2272 = nI rj.2 ∧ σ'.1 2273 = nI (rj.1 - rj.2) ∧ Eqx kRing [44, 45, 46, 47, 48] σ σ') := by
  refine Sp.of (by decide) (Nat.le_of_ble_eq_true rfl) hWf (fun κ K => R_X9_findRing_0 K ?_)
  refine ringM_fill (by omega) K (fun σ1 hE1 hs => ?_) 4096 0 σ (by omega) Eqx.rf (fun s hs => absurd hs (by omega))
  have hT1 : TM t σ1 := hT.keep hE1 (by decide) (by decide)
  have e : pS (pS (pS (pS (pS σ1 2258 (((1 : Int32) <<< (σ1.1 2245 &&& 31)) - 1)) 2259 0) 2260 (σ1.1 2245 - 1)) 2261 (σ1.1 2249)) 2262 (σ1.1 2250) = layM σ1 (tnp t) (tme t) (tla t) := by
    rw [hT1.1, hT1.2.2.1, hT1.2.2.2.1, nI_all hO.1, show (1 : Int32) = nI 1 from rfl, pk_sub (by omega)]
    rfl
  rw [e]
  have hE := layM_E σ1 (tnp t) (tme t) (tla t)
  exact ringM_loop hWf hd hT hO h2 hP K rj.1 0 _ (by omega) (layM_MM h2 σ1 _ _) rfl rfl (fun i hi => absurd hi (by omega)) (fun s hs2 _ => hs s hs2) ((hE1.mono (by simp) (by simp)).tr (hE.mono (by simp) (by simp)))
theorem d_ever {w : Int32} (hWf : Wf ω) (hd : 6 ≤ d) (hA : AO a) (hR : RM a σ) : Sp ω l yX9_ever cX9_ever 2 (some .int) d [.ref (ω.2.2.1 35), .int w] σ (PM (o_ever a w) a σ) := by
  refine Sp.of (by decide) (Nat.le_of_ble_eq_true rfl) hWf (fun κ K => ?_)
  have hnp := hA.1.1
  by_cases h4 : (if w < 0 then (0 : Int32) else (if 1 < w then 0 else 1)) = 0
  · have ho : o_ever a w = -2 := by simp only [o_ever, rgm0 (n := 1) (by decide) h4]
    rw [ho] at K
    exact R_X9_ever_0 K (by omega) (fun z_ => absurd h4 z_) (fun z_ => absurd h4 z_) (fun _ => PM.at rfl hR EM.rf)
  · obtain ⟨j, hj, rfl, e⟩ := rgm1 (n := 1) (by decide) h4
    refine R_X9_ever_0 K (by omega) (fun _ h0 => ?_) (fun _ h0 => ?_) (fun z_ => absurd z_ h4)
    · rw [hR.1.1] at h0
      have h1 := tw1 h0
      have h2 := hA.1.two h1
      rw [ever_end h1 hj] at K
      refine C_X9_ever_23 K (by omega) (m_findRing hWf (by omega) hR.1 hA.1 h2 (rgS_ok hA.1 h2)) (fun v σ1 hp => ?_)
      obtain ⟨rfl, -, -, -, q1, q2, q3⟩ := hp
      refine R_X9_ever_26 K ?_
      rw [q1, q2]
      exact PM.at rfl (hR.keep q3 (by decide) (by decide)) (EM.of q3 (by decide) (by decide))
    · rw [hR.1.1] at h0
      have ho : o_ever a (nI j) = -3 := by
        unfold o_ever
        rw [e]
        simp only
        rw [if_pos (tw0 (by omega) h0)]
      rw [ho]
      exact PM.at rfl hR EM.rf
theorem oftenM_loop {κ : KT} {t : Tn} {q r n : Nat} (hWf : Wf ω) (hd : 5 ≤ d) (hT : TM t σ) (hO : TO t) (h2 : 2 ≤ tnp t) (hme : σ.1 2261 = nI (tme t)) (hla : σ.1 2262 = nI (tla t)) (hq : q < tit t) (h73 : σ.1 2273 = nI n) (hn : n ≤ 256) {post : Option Value → St → Prop} (K : Cm ω κ l yX9_often cX9_often 5 d (some .int) post)
    (fin : ∀ σ', Eqx kRun [44, 45, 46, 47] σ σ' → post (some (.int (nI (ofS t q r n)))) σ') :
    ∀ k i σq, i + k = n → MM (bgS t (r + i)) σq → Eqx kRun [44, 45, 46, 47] σ σq → V ω κ 33 [(0, .ref (ω.2.2.1 35)), (2, .int (nI q)), (3, .int (nI (ofS t q r i))), (4, .int (nI i))] [] σq
  | 0, i, σq, h, hM, hE => by
    obtain rfl : i = n := by omega
    have hle : σq.1 2273 ≤ nI i := by rw [hE.1 2273 (by decide), h73]; exact nI_le (Nat.le_refl _) (by omega)
    exact R_X9_often_33 K (fun _ => fin σq hE) (fun z_ => absurd hle z_)
  | k + 1, i, σq, h, hM, hE => by
    have hit := hO.2.2.2.2.1
    have hge : ¬ σq.1 2273 ≤ nI i := by
      rw [hE.1 2273 (by decide), h73]
      exact fun z => absurd ((nI_leI (by omega) (by omega)).mp z) (by omega)
    have hTq : TM t σq := hT.keep hE (by decide) (by decide)
    refine R_X9_often_33 K (fun z_ => absurd z_ hge) (fun _ => ?_)
    have hG := bgS_ok hO h2 (r + i)
    rw [hTq.2.2.2.2.1]
    refine C_X9_often_51 K (by omega) (m_goRun (row := tag t) rfl (by decide) hit (fun q hq => ⟨hTq.2.2.2.2.2.2.2 q hq, hO.2.2.2.2.2.2.1 q hq⟩) hWf (by omega) hTq hO h2 hM hG.1 hG.2.1 (me := tme t) (la := tla t) ((hE.1 2261 (by decide)).trans hme) hO.2.2.1 ((hE.1 2262 (by decide)).trans hla) hO.2.2.2.1) (fun v σ' hp => ?_)
    obtain ⟨rfl, q1, q2, q3⟩ := hp
    have hv := (q2 q hq).2.2.1
    have ih := oftenM_loop hWf hd hT hO h2 hme hla hq h73 hn K fin k (i + 1) σ' (by omega) q1 (hE.tr q3)
    rw [ofS] at ih
    refine R_X9_often_54 K (vp_in_nI (by omega) (by omega)) ?_
    rw [nI_clamp (by omega), hv, nI_1]
    by_cases z : (vtS t (tme t) (tla t) (oW t) (bgS t (r + i)) q).2.1 = 1
    · rw [if_pos z] at ih ⊢
      rw [nI_1]
      exact ih
    · rw [if_neg z] at ih ⊢
      rw [show (0 : Int32) = nI 0 from rfl, nI_add]
      exact ih
theorem d_often {m : Int32} (hWf : Wf ω) (hd : 6 ≤ d) (hA : AO a) (hR : RM a σ) : Sp ω l yX9_often cX9_often 5 (some .int) d [.ref (ω.2.2.1 35), .int m] σ (PM (o_often a m) a σ) := by
  refine Sp.of (by decide) (Nat.le_of_ble_eq_true rfl) hWf (fun κ K => ?_)
  have hit := hA.1.2.2.2.2.1
  have hnm := hA.1.2.1
  refine R_X9_often_0 K (by omega) (fun h0 => ?_) (fun h0 => ?_)
  · rw [hR.1.2.1] at h0
    obtain ⟨j, hj, rfl, e⟩ := rg1 (by omega) h0
    refine C_X9_often_12 K (by omega) (m_placeOfM hWf hR.1 hA.1 (by omega)) (go_I ?_)
    cases ep : plc (tag (att a)) j (tit (att a)) with
    | none =>
      have ho : o_often a (nI j) = 0 := by simp only [o_often, e, ep]
      rw [ho] at K
      exact R_X9_often_15 K (fun z_ => absurd rfl z_) (fun _ => PM.at rfl hR EM.rf)
    | some q =>
      obtain ⟨hq, -⟩ := plc_some ep
      have h2 := hA.1.two_q hq
      have hP := rgS_ok hA.1 h2
      have ho : o_often a (nI j) = nI (ofS (att a) q (rgS (att a)).1 ((rgS (att a)).1 - (rgS (att a)).2)) := by simp only [o_often, e, ep]
      rw [ho] at K
      refine R_X9_often_15 K (fun _ => ?_) (fun z_ => absurd (show nI q < 0 by rw [show nI q = -9 from z_]; decide) (nI_pos (by omega)))
      refine C_X9_often_25 K (by omega) (m_findRing hWf (by omega) hR.1 hA.1 h2 hP) (fun v σ1 hp => ?_)
      obtain ⟨rfl, q1, q2, q3, q4, q5, q6⟩ := hp
      refine R_X9_often_28 K ?_
      have hR1 := hR.keep q6 (by decide) (by decide)
      have hb := hP.2.1
      exact oftenM_loop (r := (rgS (att a)).1) hWf (by omega) hR1.1 hA.1 h2 q2 q3 hq q5 (by omega) K (fun σ' hE' => PM.at rfl (hR1.keep hE' (by decide) (by decide)) ((EM.of q6 (by decide) (by decide)).tr (EM.of hE' (by decide) (by decide)))) _ 0 σ1 (Nat.zero_add _) q1 Eqx.rf
  · rw [hR.1.2.1] at h0
    have ho : o_often a m = -1 := by simp only [o_often, rg0 (by omega) h0]
    rw [ho]
    exact PM.at rfl hR EM.rf
end RING2
