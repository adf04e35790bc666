/-! ===== measure, law, ofOne, wish, swear, as, tell ===== -/
section SMALL2
variable {ω : WT} {l : Launch} {d : Nat} {a : Ab} {σ : St}
abbrev setT (a : Ab) (t : Tn) : Ab := (a.1, a.2.1, a.2.2.1, t)
abbrev setTr (a : Ab) (v : Int32) : Ab := (v, a.2.1, a.2.2.1, a.2.2.2)
abbrev setFl (a : Ab) (v : Int32) : Ab := (a.1, v, a.2.2.1, a.2.2.2)
abbrev tSetMe (t : Tn) (k : Nat) : Tn := (t.1, t.2.1, k, t.2.2.2)
abbrev tSetLa (t : Tn) (k : Nat) : Tn := (t.1, t.2.1, t.2.2.1, k, t.2.2.2.2)
theorem RC.tr (hR : RC a σ) (v : Int32) : RC (setTr a v) (pS σ 8 v) := by
  have hE : Eqx [8] [] σ (pS σ 8 v) := Eqx.rf.pS (by simp) _
  exact ⟨hR.1.keep hE (by decide) (by decide), rfl, hR.2.2.1, fun j hj => (hR.2.2.2 j hj).eqx hj hE (by decide) (by decide)⟩
theorem RM.tr (hR : RM a σ) (v : Int32) : RM (setTr a v) (pS σ 2241 v) := by
  have hE : Eqx [2241] [] σ (pS σ 2241 v) := Eqx.rf.pS (by simp) _
  exact ⟨hR.1.keep hE (by decide) (by decide), rfl, hR.2.2.1, fun j hj => (hR.2.2.2 j hj).eqx hE (by decide)⟩
theorem RC.fl (hR : RC a σ) (v : Int32) : RC (setFl a v) (pS σ 9 v) := by
  have hE : Eqx [9] [] σ (pS σ 9 v) := Eqx.rf.pS (by simp) _
  exact ⟨hR.1.keep hE (by decide) (by decide), hR.2.1, rfl, fun j hj => (hR.2.2.2 j hj).eqx hj hE (by decide) (by decide)⟩
theorem RM.fl (hR : RM a σ) (v : Int32) : RM (setFl a v) (pS σ 2240 v) := by
  have hE : Eqx [2240] [] σ (pS σ 2240 v) := Eqx.rf.pS (by simp) _
  exact ⟨hR.1.keep hE (by decide) (by decide), hR.2.1, rfl, fun j hj => (hR.2.2.2 j hj).eqx hE (by decide)⟩
theorem EC.s {σ σ1 : St} (h : EC σ σ1) {k : Nat} (hk : k < 2240) (v : Int32) : EC σ (pS σ1 k v) := h.tr (EC.of (ks := [k]) (as := []) (Eqx.rf.pS (by simp) v) (by simpa using hk) (by simp))
theorem EM.s {σ σ1 : St} (h : EM σ σ1) {k : Nat} (hk : 2240 ≤ k) (v : Int32) : EM σ (pS σ1 k v) := h.tr (EM.of (ks := [k]) (as := []) (Eqx.rf.pS (by simp) v) (by simpa using hk) (by simp))
theorem AO.np (h : AO a) : tnp (att a) < 2 ^ 31 := by have := h.1.1; omega
theorem AO.nm (h : AO a) : tnm (att a) < 2 ^ 31 := by have := h.1.2.1; omega
def o_measure (a : Ab) (x : Int32) : Int32 × Ab := match ix x 4 with
  | none => (-2, a)
  | some k => if tnp (att a) = 0 then (-3, a) else (nI (tme (att a)), setT a (tSetMe (att a) k))
def o_law (a : Ab) (x : Int32) : Int32 × Ab := match ix x 3 with
  | none => (-2, a)
  | some k => if tnp (att a) = 0 then (-3, a) else (nI (tla (att a)), setT a (tSetLa (att a) k))
theorem ix_neg {x : Int32} {n : Nat} (h : x < 0) : ix x n = none := by unfold ix; rw [if_pos (Or.inl h)]
theorem ix_big {x : Int32} {n : Nat} (hn : n < 2 ^ 31) (h : ¬ x < 0) (h2 : ¬ x < nI n) : ix x n = none := by
  rcases ix_cases x n hn with ⟨e, -⟩ | ⟨j, hj, rfl, -⟩
  · exact e
  · exact absurd (nI_lt hj hn) h2
theorem ix_lt {x : Int32} {n : Nat} (hn : n < 2 ^ 31) (h : ¬ x < 0) (h2 : x < nI n) : ∃ j, j < n ∧ x = nI j ∧ ix x n = some j := by
  obtain ⟨j, hj, rfl⟩ := nI_of h
  have := (nI_ltI hj hn).mp h2
  exact ⟨j, this, rfl, ix_n this hn⟩
theorem TC.me {t : Tn} {σ : St} (h : TC t σ) (k : Nat) : TC (tSetMe t k) (pS σ 642 (nI k)) := ⟨h.1, h.2.1, rfl, h.2.2.2.1, h.2.2.2.2.1, h.2.2.2.2.2.1, h.2.2.2.2.2.2.1, h.2.2.2.2.2.2.2⟩
theorem TC.la {t : Tn} {σ : St} (h : TC t σ) (k : Nat) : TC (tSetLa t k) (pS σ 643 (nI k)) := ⟨h.1, h.2.1, h.2.2.1, rfl, h.2.2.2.2.1, h.2.2.2.2.2.1, h.2.2.2.2.2.2.1, h.2.2.2.2.2.2.2⟩
theorem TM.me {t : Tn} {σ : St} (h : TM t σ) (k : Nat) : TM (tSetMe t k) (pS σ 2249 (nI k)) := ⟨h.1, h.2.1, rfl, h.2.2.2.1, h.2.2.2.2.1, h.2.2.2.2.2⟩
theorem TM.la {t : Tn} {σ : St} (h : TM t σ) (k : Nat) : TM (tSetLa t k) (pS σ 2250 (nI k)) := ⟨h.1, h.2.1, h.2.2.1, rfl, h.2.2.2.2.1, h.2.2.2.2.2⟩
theorem RC.town {a : Ab} {σ σ' : St} {t : Tn} {ks as : List Nat} (h : RC a σ) (hT : TC t σ') (e : Eqx ks as σ σ') (hk : ∀ k ∈ [8, 9] ++ kShC, k ∉ ks) (ha : ∀ k ∈ [6, 7, 8, 9], k ∉ as) : RC (setT a t) σ' :=
  ⟨hT, by rw [e.1 8 (hk 8 (by simp))]; exact h.2.1, by rw [e.1 9 (hk 9 (by simp))]; exact h.2.2.1, fun j hj => (h.2.2.2 j hj).eqx hj e (fun k z => hk k (List.mem_append_right _ z)) ha⟩
theorem RM.town {a : Ab} {σ σ' : St} {t : Tn} {ks as : List Nat} (h : RM a σ) (hT : TM t σ') (e : Eqx ks as σ σ') (hk : ∀ k ∈ [2240, 2241], k ∉ ks) (ha : ∀ k ∈ [36, 37, 38], k ∉ as) : RM (setT a t) σ' :=
  ⟨hT, by rw [e.1 2241 (hk _ (by simp))]; exact h.2.1, by rw [e.1 2240 (hk _ (by simp))]; exact h.2.2.1, fun j hj => (h.2.2.2 j hj).eqx e ha⟩
theorem c_measure {x : Int32} (hWf : Wf ω) (hd : 1 ≤ d) (hA : AO a) (hR : RC a σ) : Sp ω l yX8_measure cX8_measure 3 (some .int) d [.ref (ω.2.2.1 0), .int x] σ (PC (o_measure a x).1 (o_measure a x).2 σ) := by
  refine Sp.of (by decide) (Nat.le_of_ble_eq_true rfl) hWf (fun κ K => R_X8_measure_0 K hd (fun h => ?_) (fun h0 h1 h2 => ?_) (fun h0 h1 h2 => ?_) (fun h0 h1 => ?_)) <;> unfold o_measure
  · rw [ix_neg h]; exact PC.at rfl hR EC.rf
  · obtain ⟨k, hk, rfl, e⟩ := ix_lt (n := 4) (by decide) h0 h1
    rw [hR.1.1] at h2
    simp only [e, if_neg (tw1 h2)]
    exact PC.at hR.1.2.2.1 (hR.town (ks := [642]) (as := []) (hR.1.me k) (Eqx.rf.pS (by simp) _) (by decide) (by decide)) (EC.rf.s (by decide) _)
  · obtain ⟨k, hk, rfl, e⟩ := ix_lt (n := 4) (by decide) h0 h1
    rw [hR.1.1] at h2
    simp only [e, if_pos (tw0 hA.np h2)]
    exact PC.at rfl hR EC.rf
  · rw [ix_big (n := 4) (by decide) h0 h1]; exact PC.at rfl hR EC.rf
theorem d_measure {x : Int32} (hWf : Wf ω) (hd : 1 ≤ d) (hA : AO a) (hR : RM a σ) : Sp ω l yX9_measure cX9_measure 3 (some .int) d [.ref (ω.2.2.1 35), .int x] σ (PM (o_measure a x).1 (o_measure a x).2 σ) := by
  refine Sp.of (by decide) (Nat.le_of_ble_eq_true rfl) hWf (fun κ K => R_X9_measure_0 K hd (fun h h2 => ?_) (fun h h2 => ?_) (fun h => ?_)) <;> unfold o_measure
  · obtain ⟨k, hk, rfl, e⟩ := rgm1 (n := 3) (by decide) h
    rw [hR.1.1] at h2
    simp only [e, if_neg (tw1 h2)]
    exact PM.at hR.1.2.2.1 (hR.town (ks := [2249]) (as := []) (hR.1.me k) (Eqx.rf.pS (by simp) _) (by decide) (by decide)) (EM.rf.s (by decide) _)
  · obtain ⟨k, hk, rfl, e⟩ := rgm1 (n := 3) (by decide) h
    rw [hR.1.1] at h2
    simp only [e, if_pos (tw0 hA.np h2)]
    exact PM.at rfl hR EM.rf
  · rw [rgm0 (n := 3) (by decide) h]; exact PM.at rfl hR EM.rf
theorem c_law {x : Int32} (hWf : Wf ω) (hd : 1 ≤ d) (hA : AO a) (hR : RC a σ) : Sp ω l yX8_law cX8_law 3 (some .int) d [.ref (ω.2.2.1 0), .int x] σ (PC (o_law a x).1 (o_law a x).2 σ) := by
  refine Sp.of (by decide) (Nat.le_of_ble_eq_true rfl) hWf (fun κ K => R_X8_law_0 K hd (fun h => ?_) (fun h0 h1 h2 => ?_) (fun h0 h1 h2 => ?_) (fun h0 h1 => ?_)) <;> unfold o_law
  · rw [ix_neg h]; exact PC.at rfl hR EC.rf
  · obtain ⟨k, hk, rfl, e⟩ := ix_lt (n := 3) (by decide) h0 h1
    rw [hR.1.1] at h2
    simp only [e, if_neg (tw1 h2)]
    exact PC.at hR.1.2.2.2.1 (hR.town (ks := [643]) (as := []) (hR.1.la k) (Eqx.rf.pS (by simp) _) (by decide) (by decide)) (EC.rf.s (by decide) _)
  · obtain ⟨k, hk, rfl, e⟩ := ix_lt (n := 3) (by decide) h0 h1
    rw [hR.1.1] at h2
    simp only [e, if_pos (tw0 hA.np h2)]
    exact PC.at rfl hR EC.rf
  · rw [ix_big (n := 3) (by decide) h0 h1]; exact PC.at rfl hR EC.rf
theorem d_law {x : Int32} (hWf : Wf ω) (hd : 1 ≤ d) (hA : AO a) (hR : RM a σ) : Sp ω l yX9_law cX9_law 3 (some .int) d [.ref (ω.2.2.1 35), .int x] σ (PM (o_law a x).1 (o_law a x).2 σ) := by
  refine Sp.of (by decide) (Nat.le_of_ble_eq_true rfl) hWf (fun κ K => R_X9_law_0 K hd (fun h h2 => ?_) (fun h h2 => ?_) (fun h => ?_)) <;> unfold o_law
  · obtain ⟨k, hk, rfl, e⟩ := rgm1 (n := 2) (by decide) h
    rw [hR.1.1] at h2
    simp only [e, if_neg (tw1 h2)]
    exact PM.at hR.1.2.2.2.1 (hR.town (ks := [2250]) (as := []) (hR.1.la k) (Eqx.rf.pS (by simp) _) (by decide) (by decide)) (EM.rf.s (by decide) _)
  · obtain ⟨k, hk, rfl, e⟩ := rgm1 (n := 2) (by decide) h
    rw [hR.1.1] at h2
    simp only [e, if_pos (tw0 hA.np h2)]
    exact PM.at rfl hR EM.rf
  · rw [rgm0 (n := 2) (by decide) h]; exact PM.at rfl hR EM.rf
theorem a_measure {x : Int32} (hA : AO a) : AO (o_measure a x).2 := by
  unfold o_measure
  cases e : ix x 4 with
  | none => exact hA
  | some k =>
    have hk := (ix_some e).1
    simp only
    split
    · exact hA
    · obtain ⟨⟨h1, h2, h3, h4, h5, h6, h7, h8, h9⟩, hs⟩ := hA
      exact ⟨⟨h1, h2, by show k ≤ 3; omega, h4, h5, h6, h7, h8, h9.elim (fun z => absurd z.1 (by assumption)) Or.inr⟩, hs⟩
theorem a_law {x : Int32} (hA : AO a) : AO (o_law a x).2 := by
  unfold o_law
  cases e : ix x 3 with
  | none => exact hA
  | some k =>
    have hk := (ix_some e).1
    simp only
    split
    · exact hA
    · obtain ⟨⟨h1, h2, h3, h4, h5, h6, h7, h8, h9⟩, hs⟩ := hA
      exact ⟨⟨h1, h2, h3, by show k ≤ 2; omega, h5, h6, h7, h8, h9.elim (fun z => absurd z.1 (by assumption)) Or.inr⟩, hs⟩
def o_ofOne (t : Tn) (x w : Int32) : Int32 := match ix x (tnp t) with
  | none => -1
  | some i => if w = -1 then nI (tkd t i) else match ix w (tnm t) with
    | none => -2
    | some m => if tws t i m then 1 else 0
theorem wy_bit {t : Tn} {σ : St} (hT : TC t σ) (hO : TO t) {i m : Nat} (hi : i < tnp t) (hm : m < tnm t) : (if (σ.2.1 12 (nI m).toNatClampNeg >>> (nI i &&& 31)) &&& 1 = 0 then (0 : Int32) else 1) = if tws t i m then 1 else 0 := by
  have hnp := hO.1
  have hnm := hO.2.1
  have hl := bs_lt (fun x => tws t x m) (tnp t)
  have hp8 := p2_le8 hnp
  rw [nI_clamp (by omega), hT.2.2.2.2.2.2.2.2.1 m hm, nI_bit (by omega) (by omega), bs_bit]
  cases q : tws t i m <;> simp [hi, nI] <;> decide
theorem c_ofOne {x w : Int32} (hWf : Wf ω) (hd : 1 ≤ d) (hA : AO a) (hR : RC a σ) : Sp ω l yX8_ofOne cX8_ofOne 3 (some .int) d [.ref (ω.2.2.1 0), .int x, .int w] σ (PC (o_ofOne (att a) x w) a σ) := by
  have hnp := hA.1.1
  have hnm := hA.1.2.1
  refine Sp.of (by decide) (Nat.le_of_ble_eq_true rfl) hWf (fun κ K => R_X8_ofOne_0 K hd (fun h0 h1 h2 => ?_) (fun h0 h1 h2 => ?_) (fun h0 h1 h2 => ?_) (fun h0 h1 => ?_) (fun h0 h1 => ?_) (fun h0 => ?_))
  · rw [hR.1.2.1] at h2
    obtain ⟨m, hm, rfl, -⟩ := rg1 hA.nm h2
    exact vp_in_nI (by omega) (by omega)
  · rw [hR.1.1] at h0
    rw [hR.1.2.1] at h2
    obtain ⟨i, hi, rfl, e⟩ := rg1 hA.np h0
    obtain ⟨m, hm, rfl, e2⟩ := rg1 hA.nm h2
    refine PC.at ?_ hR EC.rf
    unfold o_ofOne
    simp only [e, if_neg h1, e2]
    rw [wy_bit hR.1 hA.1 hi hm]
    cases tws (att a) i m <;> rfl
  · rw [hR.1.1] at h0
    rw [hR.1.2.1] at h2
    obtain ⟨i, hi, rfl, e⟩ := rg1 hA.np h0
    refine PC.at ?_ hR EC.rf
    unfold o_ofOne
    simp only [e, if_neg h1, rg0 hA.nm h2]
  · rw [hR.1.1] at h0
    obtain ⟨i, hi, rfl, e⟩ := rg1 hA.np h0
    exact vp_in_nI (by omega) (by omega)
  · rw [hR.1.1] at h0
    obtain ⟨i, hi, rfl, e⟩ := rg1 hA.np h0
    refine PC.at ?_ hR EC.rf
    unfold o_ofOne
    simp only [e, if_pos h1]
    rw [nI_clamp (by omega)]
    exact hR.1.2.2.2.2.2.2.2.1 i hi
  · rw [hR.1.1] at h0
    refine PC.at ?_ hR EC.rf
    unfold o_ofOne
    simp only [rg0 hA.np h0]
theorem wm_bit {t : Tn} {σ : St} (hT : TM t σ) (hO : TO t) {i m : Nat} (hi : i < tnp t) (hm : m < tnm t) : ((σ.2.1 40 (nI i).toNatClampNeg >>> (nI m &&& 31)) &&& 1) = if tws t i m then 1 else 0 := by
  have hnp := hO.1
  have hnm := hO.2.1
  have hl := bs_lt (tws t i) (tnm t)
  have : 2 ^ tnm t ≤ 2 ^ 6 := Nat.pow_le_pow_right (by omega) hnm
  rw [nI_clamp (by omega), hT.2.2.2.2.2.2.1 i hi, nI_bit (by omega) (by omega), bs_bit]
  cases q : tws t i m <;> simp [hm, nI] <;> decide
theorem d_ofOne {x w : Int32} (hWf : Wf ω) (hd : 1 ≤ d) (hA : AO a) (hR : RM a σ) : Sp ω l yX9_ofOne cX9_ofOne 3 (some .int) d [.ref (ω.2.2.1 35), .int x, .int w] σ (PM (o_ofOne (att a) x w) a σ) := by
  have hnp := hA.1.1
  have hnm := hA.1.2.1
  refine Sp.of (by decide) (Nat.le_of_ble_eq_true rfl) hWf (fun κ K => R_X9_ofOne_0 K hd (fun h0 h1 h2 => ?_) (fun h0 h1 => ?_) (fun h0 => ?_) (fun h0 => ?_))
  · rw [hR.1.1] at h0
    obtain ⟨i, hi, rfl, -⟩ := rg1 hA.np h0
    exact vp_in_nI (by omega) (by omega)
  · rw [hR.1.1] at h0
    obtain ⟨i, hi, rfl, -⟩ := rg1 hA.np h0
    exact vp_in_nI (by omega) (by omega)
  · rw [hR.1.1] at h0
    obtain ⟨i, hi, rfl, e⟩ := rg1 hA.np h0
    refine PM.at ?_ hR EM.rf
    unfold o_ofOne
    simp only [e]
    by_cases h1 : w = -1
    · rw [if_pos h1, if_pos h1, nI_clamp (by omega)]
      exact hR.1.2.2.2.2.2.1 i hi
    · rw [if_neg h1, if_neg h1, hR.1.2.1]
      by_cases h2 : (if w < 0 then (0 : Int32) else if nI (tnm (att a)) ≤ w then 0 else 1) = 0
      · rw [if_pos h2]
        simp only [rg0 hA.nm h2]
      · rw [if_neg h2]
        obtain ⟨m, hm, rfl, e2⟩ := rg1 hA.nm h2
        simp only [e2]
        exact wm_bit hR.1 hA.1 hi hm
  · rw [hR.1.1] at h0
    refine PM.at ?_ hR EM.rf
    unfold o_ofOne
    simp only [rg0 hA.np h0]
def o_swear (a : Ab) (x : Int32) : Int32 × Ab := match ix x (tnp (att a)) with
  | none => (-1, a)
  | some i => if tkd (att a) i = 2 then (30, setTr a (31 * atr a + 5)) else (nI i, setTr a (31 * atr a + 4))
theorem c_swear {x : Int32} (hWf : Wf ω) (hd : 1 ≤ d) (hA : AO a) (hR : RC a σ) : Sp ω l yX8_swear cX8_swear 2 (some .int) d [.ref (ω.2.2.1 0), .int x] σ (PC (o_swear a x).1 (o_swear a x).2 σ) := by
  have hnp := hA.1.1
  refine Sp.of (by decide) (Nat.le_of_ble_eq_true rfl) hWf (fun κ K => R_X8_swear_0 K hd (fun h0 => ?_) (fun h0 h1 => ?_) (fun h0 h1 => ?_) (fun h0 => ?_))
  · rw [hR.1.1] at h0
    obtain ⟨i, hi, rfl, -⟩ := rg1 hA.np h0
    exact vp_in_nI (by omega) (by omega)
  · rw [hR.1.1] at h0
    obtain ⟨i, hi, rfl, e⟩ := rg1 hA.np h0
    have hk := hA.1.2.2.2.2.2.1 i
    rw [nI_clamp (by omega), hR.1.2.2.2.2.2.2.2.1 i hi] at h1
    have h1 : ¬ tkd (att a) i = 2 := fun z => h1 (by rw [z]; rfl)
    unfold o_swear
    simp only [e, if_neg h1]
    rw [hR.2.1]
    exact PC.at rfl (hR.tr _) (EC.rf.s (by decide) _)
  · rw [hR.1.1] at h0
    obtain ⟨i, hi, rfl, e⟩ := rg1 hA.np h0
    have hk := hA.1.2.2.2.2.2.1 i
    rw [nI_clamp (by omega), hR.1.2.2.2.2.2.2.2.1 i hi] at h1
    have h1 : tkd (att a) i = 2 := (nI_eq (b := 2) (by omega) (by omega)).mp h1
    unfold o_swear
    simp only [e, if_pos h1]
    rw [hR.2.1]
    exact PC.at rfl (hR.tr _) (EC.rf.s (by decide) _)
  · rw [hR.1.1] at h0
    unfold o_swear
    simp only [rg0 hA.np h0]
    exact PC.at rfl hR EC.rf
theorem d_swear {x : Int32} (hWf : Wf ω) (hd : 1 ≤ d) (hA : AO a) (hR : RM a σ) : Sp ω l yX9_swear cX9_swear 2 (some .int) d [.ref (ω.2.2.1 35), .int x] σ (PM (o_swear a x).1 (o_swear a x).2 σ) := by
  have hnp := hA.1.1
  refine Sp.of (by decide) (Nat.le_of_ble_eq_true rfl) hWf (fun κ K => R_X9_swear_0 K hd (fun h0 => ?_) (fun h0 => ?_) (fun h0 => ?_) (fun h0 => ?_))
  · rw [hR.1.1] at h0
    obtain ⟨i, hi, rfl, -⟩ := rg1 hA.np h0
    exact vp_in_nI (by omega) (by omega)
  · rw [hR.1.1] at h0
    obtain ⟨i, hi, rfl, -⟩ := rg1 hA.np h0
    exact vp_in_nI (by omega) (by omega)
  · rw [hR.1.1] at h0
    obtain ⟨i, hi, rfl, e⟩ := rg1 hA.np h0
    have hk := hA.1.2.2.2.2.2.1 i
    rw [nI_clamp (by omega), hR.1.2.2.2.2.2.1 i hi, hR.2.1]
    unfold o_swear
    simp only [e]
    by_cases h1 : tkd (att a) i = 2
    · rw [if_pos h1, h1, if_pos (show nI 2 = 2 from rfl), if_pos (show nI 2 = 2 from rfl)]
      exact PM.at rfl (hR.tr _) (EM.rf.s (by decide) _)
    · have h2 : ¬ nI (tkd (att a) i) = 2 := fun z => h1 ((nI_eq (b := 2) (by omega) (by omega)).mp z)
      rw [if_neg h1, if_neg h2, if_neg h2]
      exact PM.at rfl (hR.tr _) (EM.rf.s (by decide) _)
  · rw [hR.1.1] at h0
    unfold o_swear
    simp only [rg0 hA.np h0]
    exact PM.at rfl hR EM.rf
def o_as (a : Ab) (x k : Int32) : Int32 × Ab := match ix x (tnp (att a)) with
  | none => (-1, setFl a 0)
  | some i => match ix k 3 with
    | none => (-2, setFl a 0)
    | some s => if s ≤ tkd (att a) i then (1, setFl a 0) else (-12, setFl a 2)
theorem c_as {x k : Int32} (hWf : Wf ω) (hd : 1 ≤ d) (hA : AO a) (hR : RC a σ) : Sp ω l yX8_as cX8_as 3 (some .int) d [.ref (ω.2.2.1 0), .int x, .int k] σ (PC (o_as a x k).1 (o_as a x k).2 σ) := by
  have hnp := hA.1.1
  refine Sp.of (by decide) (Nat.le_of_ble_eq_true rfl) hWf (fun κ K => R_X8_as_0 K hd (fun h0 h1 => ?_) (fun h0 h1 h2 => ?_) (fun h0 h1 h2 h3 => ?_) (fun h0 h1 h2 h3 => ?_) (fun h0 h1 h2 => ?_) (fun h0 => ?_))
  · rw [hR.1.1] at h0
    obtain ⟨i, hi, rfl, e⟩ := rg1 hA.np h0
    unfold o_as
    simp only [e, ix_neg h1]
    exact PC.at rfl (hR.fl _) (EC.rf.s (by decide) _)
  · rw [hR.1.1] at h0
    obtain ⟨i, hi, rfl, -⟩ := rg1 hA.np h0
    exact vp_in_nI (by omega) (by omega)
  · rw [hR.1.1] at h0
    obtain ⟨i, hi, rfl, e⟩ := rg1 hA.np h0
    obtain ⟨s, hs, rfl, e2⟩ := ix_lt (n := 3) (by decide) h1 h2
    have hk := hA.1.2.2.2.2.2.1 i
    rw [nI_clamp (by omega), hR.1.2.2.2.2.2.2.2.1 i hi, nI_leI (by omega) (by omega)] at h3
    unfold o_as
    simp only [e, e2, if_pos h3]
    exact PC.at rfl (hR.fl _) (EC.rf.s (by decide) _)
  · rw [hR.1.1] at h0
    obtain ⟨i, hi, rfl, e⟩ := rg1 hA.np h0
    obtain ⟨s, hs, rfl, e2⟩ := ix_lt (n := 3) (by decide) h1 h2
    have hk := hA.1.2.2.2.2.2.1 i
    rw [nI_clamp (by omega), hR.1.2.2.2.2.2.2.2.1 i hi, nI_leI (by omega) (by omega)] at h3
    unfold o_as
    simp only [e, e2, if_neg h3]
    rw [pS_over]
    exact PC.at rfl (hR.fl _) (EC.rf.s (by decide) _)
  · rw [hR.1.1] at h0
    obtain ⟨i, hi, rfl, e⟩ := rg1 hA.np h0
    unfold o_as
    simp only [e, ix_big (n := 3) (by decide) h1 h2]
    exact PC.at rfl (hR.fl _) (EC.rf.s (by decide) _)
  · rw [hR.1.1] at h0
    unfold o_as
    simp only [rg0 hA.np h0]
    exact PC.at rfl (hR.fl _) (EC.rf.s (by decide) _)
theorem d_as {x k : Int32} (hWf : Wf ω) (hd : 1 ≤ d) (hA : AO a) (hR : RM a σ) : Sp ω l yX9_as cX9_as 3 (some .int) d [.ref (ω.2.2.1 35), .int x, .int k] σ (PM (o_as a x k).1 (o_as a x k).2 σ) := by
  have hnp := hA.1.1
  refine Sp.of (by decide) (Nat.le_of_ble_eq_true rfl) hWf (fun κ K => R_X9_as_0 K hd (fun h0 h1 => ?_) (fun h0 h1 h2 => ?_) (fun h0 h1 h2 => ?_) (fun h0 h1 => ?_) (fun h0 => ?_))
  · rw [hR.1.1] at h0
    obtain ⟨i, hi, rfl, -⟩ := rg1 hA.np h0
    exact vp_in_nI (by omega) (by omega)
  · rw [hR.1.1] at h0
    obtain ⟨i, hi, rfl, e⟩ := rg1 hA.np h0
    obtain ⟨s, hs, rfl, e2⟩ := rgm1 (n := 2) (by decide) h1
    have hk := hA.1.2.2.2.2.2.1 i
    rw [nI_clamp (by omega), hR.1.2.2.2.2.2.1 i hi, nI_ltI (by omega) (by omega)] at h2
    unfold o_as
    simp only [e, e2, if_neg (show ¬ s ≤ tkd (att a) i by omega)]
    rw [pS_over]
    exact PM.at rfl (hR.fl _) (EM.rf.s (by decide) _)
  · rw [hR.1.1] at h0
    obtain ⟨i, hi, rfl, e⟩ := rg1 hA.np h0
    obtain ⟨s, hs, rfl, e2⟩ := rgm1 (n := 2) (by decide) h1
    have hk := hA.1.2.2.2.2.2.1 i
    rw [nI_clamp (by omega), hR.1.2.2.2.2.2.1 i hi, nI_ltI (by omega) (by omega)] at h2
    unfold o_as
    simp only [e, e2, if_pos (show s ≤ tkd (att a) i by omega)]
    exact PM.at rfl (hR.fl _) (EM.rf.s (by decide) _)
  · rw [hR.1.1] at h0
    obtain ⟨i, hi, rfl, e⟩ := rg1 hA.np h0
    unfold o_as
    simp only [e, rgm0 (n := 2) (by decide) h1]
    exact PM.at rfl (hR.fl _) (EM.rf.s (by decide) _)
  · rw [hR.1.1] at h0
    unfold o_as
    simp only [rg0 hA.np h0]
    exact PM.at rfl (hR.fl _) (EM.rf.s (by decide) _)
theorem a_swear {x : Int32} (hA : AO a) : AO (o_swear a x).2 := by
  unfold o_swear
  cases ix x (tnp (att a)) with
  | none => exact hA
  | some i => simp only; split <;> exact hA
theorem a_as {x k : Int32} (hA : AO a) : AO (o_as a x k).2 := by
  unfold o_as
  cases ix x (tnp (att a)) with
  | none => exact hA
  | some i =>
    cases ix k 3 with
    | none => exact hA
    | some s => simp only; split <;> exact hA
end SMALL2
