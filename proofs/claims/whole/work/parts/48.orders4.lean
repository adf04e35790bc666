/-! ===== orders: the call, the class's side ===== -/
section ORDERS4
variable {ω : WT} {l : Launch} {d : Nat} {a : Ab} {σ : St}
abbrev allO (t : Tn) : List (List Nat) := prm (tit t) (mtS t)
abbrev wonT (t : Tn) (mt : Nat) : List Nat → Bool := fun p => wonP t (tme t) (tla t) mt p (op t)
theorem cntO_le {t : Tn} (hO : TO t) (W : List Nat → Bool) : (allO t).countP W ≤ 720 := by
  have hm := mtS_ok hO
  have hl := prm_len (mtS t) hm.2.1
  rw [hm.2.2] at hl
  have : fctS (tit t) ≤ 720 := by
    have : ∀ k, k < 7 → fctS k ≤ 720 := by decide
    exact this _ (by have := hO.2.2.2.2.1; omega)
  have h1 : (allO t).length = fctS (tit t) := hl.1
  have := List.countP_le_length (p := W) (l := allO t)
  omega
theorem cnt_0 {xs : List (List Nat)} {W : List Nat → Bool} : xs.countP W = 0 ↔ xs.find? W = none := by
  rw [List.countP_eq_zero, List.find?_eq_none]
def ordS (t : Tn) (mt : Nat) (q : Int32) : Int32 := if q = -1 then nI ((allO t).countP (wonT t mt)) else match (allO t).find? (wonT t mt) with
  | none => -9
  | some p => nI (p.getD q.toNatClampNeg 0)
def o_orders (a : Ab) (m q : Int32) : Int32 := match ix m (tnm (att a)) with
  | none => -1
  | some j => match plc (tag (att a)) j (tit (att a)) with
    | none => -1
    | some _ => if q < -1 ∨ ¬ q < nI (tit (att a)) then -1 else ordS (att a) j q
theorem m_countWon {t : Tn} {mt : Nat} (hWf : Wf ω) (hd : 13 ≤ d) (hT : TC t σ) (hO : TO t) (h2 : 2 ≤ tnp t) (hme : σ.1 897 = nI (tme t)) (hla : σ.1 898 = nI (tla t)) (hmt : mt < 6) : Sp ω l yX4_countWonByYes cX4_countWonByYes 2 (some .int) d [.ref (ω.2.2.1 28), .int (nI mt)] σ (fun v σ' => v = some (.int (nI ((allO t).countP (wonT t mt)))) ∧ (∀ p, (allO t).find? (wonT t mt) = some p → ∀ q, q < tit t → σ'.2.1 30 q = nI (p.getD q 0)) ∧ Eqx [899, 900, 901, 1795] [29, 30] σ σ') := by
  refine Sp.of (by decide) (Nat.le_of_ble_eq_true rfl) hWf (fun κ K => R_X4_countWonByYes_0 K ?_)
  have hm := mtS_ok hO
  have hit := hO.2.2.2.2.1
  have ho := op_ok h2
  have hE1 : Eqx [1795] [] σ (pS σ 1795 0) := Eqx.rf.pS (by simp) _
  have hT1 : TC t (pS σ 1795 0) := hT.keep hE1 (by decide) (by decide)
  refine C_X4_countWonByYes_8 K (by omega) (m_toPut hWf hT1 hO) (go_I ?_)
  refine R_X4_countWonByYes_11 K (by omega) ?_
  have e : (if (pS σ 1795 0).1 640 - 1 < 0 then (0 : Int32) else (pS σ 1795 0).1 640 - 1) * 256 + (((1 : Int32) <<< ((pS σ 1795 0).1 640 &&& 31)) - 1) = mI (op t) := by
    rw [hT1.1, nI_all hO.1, show (1 : Int32) = nI 1 from rfl, pk_sub (by omega), if_neg (nI_pos (by have := hO.1; omega)), show (256 : Int32) = nI 256 from rfl, pk_mul, nI_add]
  rw [e, show (0 : Int32) = nI 0 from rfl]
  refine C_X4_countWonByYes_19 K (by omega) (m_count (F := false) (pre := []) hWf hO h2 hO.2.2.1 hO.2.2.2.1 hmt (tit t) (dp := 0) (by omega) hm.2.2 hm.1 ⟨ho.1, ho.2.1⟩ (by omega) hT1 hme hla rfl (fun q hq => absurd hq (by omega)) rfl) (fun v σ' hp => ?_)
  obtain ⟨rfl, g1, g2, g3, g4, g5⟩ := hp
  exact R_X4_countWonByYes_22 K ⟨rfl, fun p hp q hq => g3 rfl p hp q hq, (hE1.mono (by simp) (by simp)).tr g5⟩
theorem c_orders {m q : Int32} (hWf : Wf ω) (hd : 15 ≤ d) (hA : AO a) (hR : RC a σ) : Sp ω l yX8_orders cX8_orders 4 (some .int) d [.ref (ω.2.2.1 0), .int m, .int q] σ (PC (o_orders a m q) a σ) := by
  refine Sp.of (by decide) (Nat.le_of_ble_eq_true rfl) hWf (fun κ K => ?_)
  have hit := hA.1.2.2.2.2.1
  have hnm := hA.1.2.1
  have e44 := hR.1.2.2.2.2.1
  refine R_X8_orders_0 K (by omega) (fun h0 => ?_) (fun h0 => ?_)
  · rw [hR.1.2.1] at h0
    have ho : o_orders a m q = -1 := by simp only [o_orders, rg0 (by omega) h0]
    rw [ho]
    exact PC.at rfl hR EC.rf
  · rw [hR.1.2.1] at h0
    obtain ⟨j, hj, rfl, e⟩ := rg1 (by omega) h0
    refine C_X8_orders_16 K (by omega) (m_placeOfC hWf hR.1 hA.1 (by omega)) (go_I ?_)
    cases ep : plc (tag (att a)) j (tit (att a)) with
    | none =>
      have ho : o_orders a (nI j) q = -1 := by simp only [o_orders, e, ep]
      rw [ho] at K
      exact R_X8_orders_19 K (by omega) (fun z_ => absurd z_ (by decide)) (fun z_ => absurd z_ (by decide)) (fun z_ => absurd z_ (by decide)) (fun _ => PC.at rfl hR EC.rf)
    | some p0 =>
      obtain ⟨hp0, -⟩ := plc_some ep
      have h2 := hA.1.two_q hp0
      have hpos : (0 : Int32) ≤ nI p0 := Int32.not_lt.mp (nI_pos (by omega : p0 < 2 ^ 31))
      have ho : o_orders a (nI j) q = if q < -1 ∨ ¬ q < nI (tit (att a)) then -1 else ordS (att a) j q := by simp only [o_orders, e, ep]
      by_cases hq : q < -1 ∨ ¬ q < nI (tit (att a))
      · rw [if_pos hq] at ho
        rw [ho] at K
        refine R_X8_orders_19 K (by omega) (fun _ _ => PC.at rfl hR EC.rf) (fun _ z1_ z2_ => ?_) (fun _ _ _ => PC.at rfl hR EC.rf) (fun z_ => absurd hpos z_)
        rw [e44] at z2_
        exact absurd hq (fun y => y.elim z1_ (fun y2 => y2 z2_))
      · rw [if_neg hq] at ho
        rw [ho] at K
        have q1 : ¬ q < -1 := fun y => hq (Or.inl y)
        have q2 : q < σ.1 644 := by rw [e44]; exact Classical.byContradiction fun y => hq (Or.inr y)
        refine R_X8_orders_19 K (by omega) (fun _ z_ => absurd z_ q1) (fun _ _ _ => ?_) (fun _ _ z_ => absurd q2 z_) (fun z_ => absurd hpos z_)
        rw [hR.1.2.2.1, hR.1.2.2.2.1]
        have hE1 : Eqx [897, 898] [] σ (pS (pS σ 897 (nI (tme (att a)))) 898 (nI (tla (att a)))) := (Eqx.rf.pS (by simp) _).pS (by simp) _
        refine C_X8_orders_54 K (by omega) (m_countWon hWf (by omega) (hR.1.keep hE1 (by decide) (by decide)) hA.1 h2 rfl rfl (by omega)) (fun v σ' hp => ?_)
        obtain ⟨rfl, g1, g2⟩ := hp
        have hE2 : Eqx [897, 898, 899, 900, 901, 1795] [29, 30] σ σ' := (hE1.mono (by simp) (by simp)).tr (g2.mono (by simp) (by simp))
        have hR' := hR.keep hE2 (by decide) (by decide)
        have hEC := EC.of hE2 (by decide) (by decide)
        have hcl := cntO_le hA.1 (wonT (att a) j)
        have c0 : nI ((allO (att a)).countP (wonT (att a) j)) = 0 ↔ (allO (att a)).find? (wonT (att a) j) = none := by rw [← cnt_0]; exact nI_eq (b := 0) (by omega) (by decide)
        by_cases hm1 : q = -1
        · have hos : ordS (att a) j q = nI ((allO (att a)).countP (wonT (att a) j)) := by unfold ordS; rw [if_pos hm1]
          rw [hos] at K
          exact R_X8_orders_57 K (fun z_ => absurd hm1 z_) (fun z_ => absurd hm1 z_) (fun _ => PC.at rfl hR' hEC)
        · have hq0 : ¬ q < 0 := fun y => by
            have : ∀ x : Int32, ¬ x < -1 → x < 0 → x = -1 := fun x h1 h2 => by
              have a1 := Int32.not_lt.mp h1
              apply Int32.toInt_inj.mp
              have a2 := Int32.le_iff_toInt_le.mp a1
              have a3 := Int32.lt_iff_toInt_lt.mp h2
              have b1 : (-1 : Int32).toInt = -1 := by decide
              have b2 : (0 : Int32).toInt = 0 := by decide
              omega
            exact hm1 (this q q1 y)
          obtain ⟨qq, hqq, rfl⟩ := nI_of hq0
          have hlt : qq < tit (att a) := by rw [e44] at q2; exact (nI_ltI hqq (by omega)).mp q2
          refine R_X8_orders_57 K (fun _ _ => vp_in_nI (by omega) (by omega)) (fun _ => ?_) (fun z_ => absurd z_ hm1)
          unfold ordS
          rw [if_neg hm1, nI_clamp hqq]
          cases ef : (allO (att a)).find? (wonT (att a) j) with
          | none =>
            rw [if_pos (c0.mpr ef)]
            exact PC.at rfl hR' hEC
          | some p =>
            rw [if_neg (fun y => by rw [c0.mp y] at ef; cases ef)]
            exact PC.at (g1 p ef qq hlt) hR' hEC
end ORDERS4
