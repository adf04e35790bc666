/-! ===== orders, safe: runs in an order, by place and by list ===== -/
section ROWS3
variable {ω : WT} {l : Launch} {d : Nat} {a : Ab} {σ : St}
/-- a run of a row, by its places -/
abbrev rwW (t : Tn) (p : List Nat) : Nat → Nat → Bool := fun q x => tws t x (p.getD q 0)
theorem mvS_sh {t : Tn} {me la m : Nat} {p : List Nat} {mo : Nat × Nat} : ∀ q, mvS t me la (rwW t (m :: p)) mo (q + 1) = mvS t me la (rwW t p) (stM t me la m mo).2.2.2 q
  | 0 => rfl
  | q + 1 => by
    rw [mvS, mvS_sh q]
    rfl
theorem vtS_sh {t : Tn} {me la m : Nat} {p : List Nat} {mo : Nat × Nat} (q : Nat) : vtS t me la (rwW t (m :: p)) mo (q + 1) = vtS t me la (rwW t p) (stM t me la m mo).2.2.2 q := by
  unfold vtS
  rw [mvS_sh]
  rfl
/-- never shut, by places -/
def shN (t : Tn) (me la : Nat) (p : List Nat) (mo : Nat × Nat) : Nat → Bool
  | 0 => false
  | q + 1 => shN t me la p mo q || decide ((vtS t me la (rwW t p) mo q).2.2.1 = 0)
theorem shN_sh {t : Tn} {me la m : Nat} {p : List Nat} {mo : Nat × Nat} : ∀ q, shN t me la (m :: p) mo (q + 1) = (decide ((stM t me la m mo).2.2.1 = 0) || shN t me la p (stM t me la m mo).2.2.2 q)
  | 0 => by
    rw [shN, shN, shN, Bool.false_or, Bool.or_false]
    rfl
  | q + 1 => by rw [shN, shN_sh q, vtS_sh, shN, Bool.or_assoc]
theorem okP_sh {t : Tn} {me la : Nat} : ∀ {p : List Nat} {mo : Nat × Nat}, okP t me la p mo = !(shN t me la p mo p.length)
  | [], _ => rfl
  | m :: p, mo => by
    show (decide ((stM t me la m mo).2.2.1 ≠ 0) && okP t me la p (stM t me la m mo).2.2.2) = !(shN t me la (m :: p) mo (p.length + 1))
    rw [shN_sh, okP_sh (p := p)]
    by_cases z : (stM t me la m mo).2.2.1 = 0
    · rw [decide_eq_false (fun y => y z), decide_eq_true z]; rfl
    · rw [decide_eq_true z, decide_eq_false z]; rfl
/-- what came of a matter in a row, by places -/
def oiN (t : Tn) (me la mt : Nat) (p : List Nat) (mo : Nat × Nat) : Nat → Int32
  | 0 => -9
  | q + 1 => if p.getD q 0 = mt then (vtS t me la (rwW t p) mo q).2.1 else oiN t me la mt p mo q
theorem oiN_no {t : Tn} {me la mt : Nat} {p : List Nat} {mo : Nat × Nat} (h : mt ∉ p) : ∀ q, q ≤ p.length → oiN t me la mt p mo q = -9
  | 0, _ => rfl
  | q + 1, hq => by
    have : ¬ p.getD q 0 = mt := fun z => h (by
      rw [← z, List.getD_eq_getElem?_getD, List.getElem?_eq_getElem (by omega)]
      exact List.getElem_mem _)
    rw [oiN, if_neg this]
    exact oiN_no h q (by omega)
theorem oiN_sh {t : Tn} {me la mt m : Nat} {p : List Nat} {mo : Nat × Nat} : ∀ q, oiN t me la mt (m :: p) mo (q + 1) = (if oiN t me la mt p (stM t me la m mo).2.2.2 q = -9 ∧ (∀ i, i < q → p.getD i 0 ≠ mt) then (if m = mt then (stM t me la m mo).2.1 else -9) else oiN t me la mt p (stM t me la m mo).2.2.2 q)
  | 0 => by
    rw [if_pos ⟨rfl, fun i hi => absurd hi (by omega)⟩]
    rfl
  | q + 1 => by
    rw [oiN, oiN_sh q, vtS_sh]
    show (if p.getD q 0 = mt then _ else _) = _
    by_cases z : p.getD q 0 = mt
    · rw [if_pos z, if_neg (fun y => y.2 q (by omega) z), oiN, if_pos z]
    · rw [if_neg z]
      have e : oiN t me la mt p (stM t me la m mo).2.2.2 (q + 1) = oiN t me la mt p (stM t me la m mo).2.2.2 q := by rw [oiN, if_neg z]
      rw [e]
      by_cases y : oiN t me la mt p (stM t me la m mo).2.2.2 q = -9 ∧ (∀ i, i < q → p.getD i 0 ≠ mt)
      · have y2 : oiN t me la mt p (stM t me la m mo).2.2.2 q = -9 ∧ (∀ i, i < q + 1 → p.getD i 0 ≠ mt) := ⟨y.1, fun i hi => by
          by_cases w : i = q
          · subst w; exact z
          · exact y.2 i (by omega)⟩
        rw [if_pos y, if_pos y2]
      · rw [if_neg y, if_neg (fun w => y ⟨w.1, fun i hi => w.2 i (by omega)⟩)]
theorem oiN_won {t : Tn} {me la mt : Nat} : ∀ {p : List Nat} {mo : Nat × Nat}, p.Nodup → (oiN t me la mt p mo p.length = 1 ↔ wonP t me la mt p mo = true)
  | [], _, _ => ⟨fun h => absurd (show (-9 : Int32) = 1 from h) (by decide), fun h => absurd (show false = true from h) (by decide)⟩
  | m :: p, mo, hd => by
    have hn := List.nodup_cons.mp hd
    show oiN t me la mt (m :: p) mo (p.length + 1) = 1 ↔ (if m = mt then decide ((stM t me la m mo).2.1 = 1) else wonP t me la mt p (stM t me la m mo).2.2.2) = true
    rw [oiN_sh]
    by_cases z : m = mt
    · have hno : mt ∉ p := fun y => hn.1 (z ▸ y)
      rw [if_pos ⟨oiN_no hno _ (Nat.le_refl _), fun i hi y => hno (by
        rw [← y, List.getD_eq_getElem?_getD, List.getElem?_eq_getElem hi]
        exact List.getElem_mem _)⟩, if_pos z, if_pos z, decide_eq_true_iff]
    · rw [if_neg z, if_neg z, ← oiN_won hn.2]
      by_cases y : oiN t me la mt p (stM t me la m mo).2.2.2 p.length = -9 ∧ (∀ i, i < p.length → p.getD i 0 ≠ mt)
      · rw [if_pos y, y.1]
      · rw [if_neg y]
theorem m_outcomeIn {t : Tn} {me la mt : Nat} {p : List Nat} {mo : Nat × Nat} (hWf : Wf ω) (hO : TO t) (h51 : σ.1 2251 = nI (tit t)) (hmt : mt < 2 ^ 31) (hW : RW p (tit t) σ) (hR : RecM t me la (rwW t p) mo (tit t) σ) : Sp ω l yX9_outcomeInOrder cX9_outcomeInOrder 4 (some .int) d [.ref (ω.2.2.1 35), .int (nI mt)] σ (rI (oiN t me la mt p mo (tit t)) σ) := by
  refine Sp.of (by decide) (Nat.le_of_ble_eq_true rfl) hWf (fun κ K => R_X9_outcomeInOrder_0 K ?_)
  have hit := hO.2.2.2.2.1
  have loop : ∀ k q, q + k = tit t → V ω κ 5 [(0, .ref (ω.2.2.1 35)), (1, .int (nI mt)), (2, .int (oiN t me la mt p mo q)), (3, .int (nI q))] [] σ := by
    intro k
    induction k with
    | zero =>
      intro q h
      obtain rfl : q = tit t := by omega
      have hle : σ.1 2251 ≤ nI (tit t) := by rw [h51]; exact nI_le (Nat.le_refl _) (by omega)
      exact R_X9_outcomeInOrder_5 K (fun _ => ⟨rfl, rfl⟩) (fun z_ => absurd hle z_) (fun z_ => absurd hle z_) (fun z_ => absurd hle z_)
    | succ k ih =>
      intro q h
      have hge : ¬ σ.1 2251 ≤ nI q := by
        rw [h51]
        exact fun z => absurd ((nI_leI (by omega) (by omega)).mp z) (by omega)
      have hin : vp_in (nI q) 6 := vp_in_nI (by omega) (by omega)
      refine R_X9_outcomeInOrder_5 K (fun z_ => absurd z_ hge) (fun _ => hin) (fun _ _ => hin) (fun _ => ?_)
      rw [nI_clamp (by omega), nI_1, hW.2.1 q (by omega), (hR q (by omega)).2.2.1]
      have ie : (nI (p.getD q 0) = nI mt) ↔ p.getD q 0 = mt := nI_eq (by have := hW.2.2 q; omega) hmt
      have ih2 := ih (q + 1) (by omega)
      rw [oiN] at ih2
      by_cases z : p.getD q 0 = mt
      · rw [if_pos z] at ih2
        rw [if_pos (ie.mpr z)]
        exact ih2
      · rw [if_neg z] at ih2
        rw [if_neg (fun y => z (ie.mp y))]
        exact ih2
  exact loop (tit t) 0 (by omega)
theorem m_onceShut {t : Tn} {me la : Nat} {p : List Nat} {mo : Nat × Nat} (hWf : Wf ω) (hO : TO t) (h2 : 2 ≤ tnp t) (hmo : mo.1 < 2 ^ tnp t ∧ mo.2 < tnp t) (h51 : σ.1 2251 = nI (tit t)) (hR : RecM t me la (rwW t p) mo (tit t) σ) : Sp ω l yX9_isOnceShut cX9_isOnceShut 3 (some .boolean) d [.ref (ω.2.2.1 35)] σ (rI (if shN t me la p mo (tit t) then 1 else 0) σ) := by
  refine Sp.of (by decide) (Nat.le_of_ble_eq_true rfl) hWf (fun κ K => R_X9_isOnceShut_0 K ?_)
  have hit := hO.2.2.2.2.1
  have loop : ∀ k q, q + k = tit t → V ω κ 4 [(0, .ref (ω.2.2.1 35)), (1, .int (if shN t me la p mo q then 1 else 0)), (2, .int (nI q))] [] σ := by
    intro k
    induction k with
    | zero =>
      intro q h
      obtain rfl : q = tit t := by omega
      have hle : σ.1 2251 ≤ nI (tit t) := by rw [h51]; exact nI_le (Nat.le_refl _) (by omega)
      refine R_X9_isOnceShut_4 K (fun _ => ?_) (fun _ => ⟨rfl, rfl⟩) (fun z_ => absurd hle z_) (fun z_ => absurd hle z_)
      split
      · exact Or.inr rfl
      · exact Or.inl rfl
    | succ k ih =>
      intro q h
      have hge : ¬ σ.1 2251 ≤ nI q := by
        rw [h51]
        exact fun z => absurd ((nI_leI (by omega) (by omega)).mp z) (by omega)
      have hin : vp_in (nI q) 6 := vp_in_nI (by omega) (by omega)
      refine R_X9_isOnceShut_4 K (fun z_ => absurd z_ hge) (fun z_ => absurd z_ hge) (fun _ _ => hin) (fun _ => ?_)
      rw [nI_clamp (by omega), nI_1, (hR q (by omega)).2.2.2]
      have hb : (vtS t me la (rwW t p) mo q).2.2.1 ≤ tnp t := by
        have hm := mvS_ok (t := t) (me := me) (la := la) (W := rwW t p) (m0 := mo) (by omega) hO.1 hmo.1 hmo.2 q
        exact (stepS_ok (me := me) (la := la) (kd := tkd t) (w := rwW t p q) (fr := fun _ => false) (show 1 ≤ tnp t by omega) hO.1 hm.1 hm.2).2.2.2
      have hnp := hO.1
      have ie : (nI (vtS t me la (rwW t p) mo q).2.2.1 = 0) ↔ (vtS t me la (rwW t p) mo q).2.2.1 = 0 := nI_eq (b := 0) (by omega) (by decide)
      have ih2 := ih (q + 1) (by omega)
      rw [shN] at ih2
      cases e : shN t me la p mo q
      · rw [e, Bool.false_or] at ih2
        rw [if_pos (show (if false = true then (1 : Int32) else 0) = 0 from rfl)]
        by_cases z : (vtS t me la (rwW t p) mo q).2.2.1 = 0
        · rw [decide_eq_true z, if_pos rfl] at ih2
          rw [if_pos (ie.mpr z)]
          exact ih2
        · rw [decide_eq_false z, if_neg (by decide)] at ih2
          rw [if_neg (fun y => z (ie.mp y))]
          exact ih2
      · rw [e, Bool.true_or, if_pos rfl] at ih2
        rw [if_neg (show ¬ (if true = true then (1 : Int32) else 0) = 0 by decide)]
        exact ih2
  exact loop (tit t) 0 (by omega)
end ROWS3
