set_option maxRecDepth 20000 in
theorem R_X7_clear_0 {ω : WT} {κ : KT} {l : Launch} {d : Nat} {post : Option Value → St → Prop} {σ : St}  (K : Cm ω κ l yX7_clear cX7_clear 1 d none post) (hdp : 1 ≤ d)
    (k1 : post none (pF (pS (pS (pS (pS (pS σ 640 (0 : Int32)) 642 (0 : Int32)) 643 (0 : Int32)) 645 (0 : Int32)) 646 (0 : Int32)) 12 (fillF ((pS (pS (pS (pS (pS σ 640 (0 : Int32)) 642 (0 : Int32)) 643 (0 : Int32)) 645 (0 : Int32)) 646 (0 : Int32)).2.1 12) (0 : Int32) 6))) :
    V ω κ 0 [(0, .ref (ω.2.2.1 10))] [] σ := by
  refine V_aload_n 0 K.1 dX7_clear_0 rfl rfl ?_
  refine V_iconst (v := 0) K.1 dX7_clear_1 (by decide) ?_
  refine V_putI (key := 640) K.1 dX7_clear_2 rfl rfl fw_X7_21 pw_X7_0 rfl rfl rfl rfl ?_
  refine V_aload_n 0 K.1 dX7_clear_5 rfl rfl ?_
  refine V_iconst (v := 0) K.1 dX7_clear_6 (by decide) ?_
  refine V_putI (key := 642) K.1 dX7_clear_7 rfl rfl fw_X7_61 pw_X7_2 rfl rfl rfl rfl ?_
  refine V_aload_n 0 K.1 dX7_clear_10 rfl rfl ?_
  refine V_iconst (v := 0) K.1 dX7_clear_11 (by decide) ?_
  refine V_putI (key := 643) K.1 dX7_clear_12 rfl rfl fw_X7_64 pw_X7_3 rfl rfl rfl rfl ?_
  refine V_aload_n 0 K.1 dX7_clear_15 rfl rfl ?_
  refine V_iconst (v := 0) K.1 dX7_clear_16 (by decide) ?_
  refine V_putI (key := 645) K.1 dX7_clear_17 rfl rfl fw_X7_67 pw_X7_5 rfl rfl rfl rfl ?_
  refine V_aload_n 0 K.1 dX7_clear_20 rfl rfl ?_
  refine V_iconst (v := 0) K.1 dX7_clear_21 (by decide) ?_
  refine V_putI (key := 646) K.1 dX7_clear_22 rfl rfl fw_X7_70 pw_X7_6 rfl rfl rfl rfl ?_
  refine V_aload_n 0 K.1 dX7_clear_25 rfl rfl ?_
  refine V_get (v := .ref (ω.2.2.1 12)) K.1 dX7_clear_26 rfl rfl fw_X7_15 rfl rfl ?_
  refine V_iconst (v := 0) K.1 dX7_clear_29 (by decide) ?_
  refine V_callS (d' := d - 1) (As := [.ref (ω.2.2.1 12), .int (0 : Int32)]) K.1 dX7_clear_30 cw_X7_73 rfl (by omega) rfl (by simp [Value.category]) (m_J7_fill_53178 rfl K.1.wf (by omega)) (go_V ?_)
  exact V_vret K dX7_clear_33 k1
theorem m_X7_clear {ω : WT} {l : Launch} {d : Nat} {σ : St}  (hWf : Wf ω) (hd : 1 ≤ d) :
    Sp ω l yX7_clear cX7_clear 1 none d [.ref (ω.2.2.1 10)] σ (rV (pF (pS (pS (pS (pS (pS σ 640 (0 : Int32)) 642 (0 : Int32)) 643 (0 : Int32)) 645 (0 : Int32)) 646 (0 : Int32)) 12 (fillF ((pS (pS (pS (pS (pS σ 640 (0 : Int32)) 642 (0 : Int32)) 643 (0 : Int32)) 645 (0 : Int32)) 646 (0 : Int32)).2.1 12) (0 : Int32) 6))) :=
  Sp.of (by decide) (Nat.le_of_ble_eq_true rfl) hWf (fun κ K => R_X7_clear_0  K hd ⟨rfl, rfl⟩)
set_option maxRecDepth 20000 in
theorem R_X7_found_0 {ω : WT} {κ : KT} {l : Launch} {d : Nat} {post : Option Value → St → Prop} {σ : St} {x2 x3 : Int32} {j : Nat} (hj : j < 4) (K : Cm ω κ l yX7_found cX7_found 6 d none post)
    (k1 : V ω κ 1 [(0, .ref (ω.2.2.1 10)), (1, .ref (ω.2.2.1 (2 + j))), (2, .int x2), (3, .int x3)] [.ref (ω.2.2.1 10)] σ) :
    V ω κ 0 [(0, .ref (ω.2.2.1 10)), (1, .ref (ω.2.2.1 (2 + j))), (2, .int x2), (3, .int x3)] [] σ := by
  refine V_aload_n 0 K.1 dX7_found_0 rfl rfl ?_
  exact k1
set_option maxRecDepth 20000 in
theorem R_X7_found_4 {ω : WT} {κ : KT} {l : Launch} {d : Nat} {post : Option Value → St → Prop} {σ : St} {x2 x3 : Int32} {j : Nat} (hj : j < 4) (K : Cm ω κ l yX7_found cX7_found 6 d none post) (hdp : 1 ≤ d)
    (p1 : ¬ ((x2 + (1 : Int32)) < 0) → ¬ ((σ.1 (64 * (2 + j) + 1)) ≤ (x2 + (1 : Int32))) → vp_in (x2 + (1 : Int32)) 80)
    (k2 : V ω κ 26 [(0, .ref (ω.2.2.1 10)), (1, .ref (ω.2.2.1 (2 + j))), (2, .int x2), (3, .int x3), (4, .int (2 : Int32))] [] (pS σ 641 (if ((6 : Int32) < ((if ((x2 + (1 : Int32)) < 0) then (0 : Int32) else (if ((σ.1 (64 * (2 + j) + 1)) ≤ (x2 + (1 : Int32))) then (0 : Int32) else (σ.2.1 (6 + j) ((x2 + (1 : Int32))).toNatClampNeg))) - (48 : Int32))) then (6 : Int32) else ((if ((x2 + (1 : Int32)) < 0) then (0 : Int32) else (if ((σ.1 (64 * (2 + j) + 1)) ≤ (x2 + (1 : Int32))) then (0 : Int32) else (σ.2.1 (6 + j) ((x2 + (1 : Int32))).toNatClampNeg))) - (48 : Int32))))) :
    V ω κ 4 [(0, .ref (ω.2.2.1 10)), (1, .ref (ω.2.2.1 (2 + j))), (2, .int x2), (3, .int x3)] [] σ := by
  refine V_aload_n 0 K.1 dX7_found_4 rfl rfl ?_
  refine V_aload_n 1 K.1 dX7_found_5 rfl rfl ?_
  refine V_iload_n 2 K.1 dX7_found_6 rfl rfl ?_
  refine V_iconst (v := 1) K.1 dX7_found_7 (by decide) ?_
  refine V_iadd K.1 dX7_found_8 ?_
  refine V_callV (d' := d - 1) (As := [.int (x2 + (1 : Int32))]) K.1 dX7_found_9 cw_X7_31 (shO j hj) rfl rfl (by omega) rfl (by simp [Value.category]) (m_X6_at hj K.1.wf (by omega) p1) (go_I ?_)
  refine V_bipush (v := 48) K.1 dX7_found_12 (by decide) ?_
  refine V_isub K.1 dX7_found_14 ?_
  refine V_bipush (v := 6) K.1 dX7_found_15 (by decide) ?_
  refine V_callS (d' := d - 1) (As := [.int ((if ((x2 + (1 : Int32)) < 0) then (0 : Int32) else (if ((σ.1 (64 * (2 + j) + 1)) ≤ (x2 + (1 : Int32))) then (0 : Int32) else (σ.2.1 (6 + j) ((x2 + (1 : Int32))).toNatClampNeg))) - (48 : Int32)), .int (6 : Int32)]) K.1 dX7_found_17 cw_X7_51 rfl (by omega) rfl (by simp [Value.category]) (m_J9_min_7cf53 K.1.wf (by omega)) (go_I ?_)
  refine V_putI (key := 641) K.1 dX7_found_20 rfl rfl fw_X7_25 pw_X7_1 rfl rfl rfl rfl ?_
  refine V_iconst (v := 2) K.1 dX7_found_23 (by decide) ?_
  refine V_istore (L' := [(0, .ref (ω.2.2.1 10)), (1, .ref (ω.2.2.1 (2 + j))), (2, .int x2), (3, .int x3), (4, .int (2 : Int32))]) K.1 dX7_found_24 (by decide) rfl ?_
  exact k2
set_option maxRecDepth 20000 in
theorem R_X7_found_26 {ω : WT} {κ : KT} {l : Launch} {d : Nat} {post : Option Value → St → Prop} {σ : St} {x2 x3 x4 : Int32} {j : Nat} (hj : j < 4) (K : Cm ω κ l yX7_found cX7_found 6 d none post) (hdp : 1 ≤ d)
    (k1 : (x3 ≤ x4) → V ω κ 145 [(0, .ref (ω.2.2.1 10)), (5, .int (0 : Int32))] [] (pS σ 644 (σ.1 641)))
    (k2 : ¬ (x3 ≤ x4) → ((8 : Int32) ≤ (σ.1 640)) → V ω κ 145 [(0, .ref (ω.2.2.1 10)), (5, .int (0 : Int32))] [] (pS σ 644 (σ.1 641)))
    (p3 : ¬ (x3 ≤ x4) → ¬ ((8 : Int32) ≤ (σ.1 640)) → ¬ (((x2 + x4) + (1 : Int32)) < 0) → ¬ ((σ.1 (64 * (2 + j) + 1)) ≤ ((x2 + x4) + (1 : Int32))) → vp_in ((x2 + x4) + (1 : Int32)) 80)
    (k4 : ¬ (x3 ≤ x4) → ¬ ((8 : Int32) ≤ (σ.1 640)) → V ω κ 55 [(0, .ref (ω.2.2.1 10)), (1, .ref (ω.2.2.1 (2 + j))), (2, .int x2), (3, .int x3), (4, .int x4)] [.int (if ((if (((x2 + x4) + (1 : Int32)) < 0) then (0 : Int32) else (if ((σ.1 (64 * (2 + j) + 1)) ≤ ((x2 + x4) + (1 : Int32))) then (0 : Int32) else (σ.2.1 (6 + j) (((x2 + x4) + (1 : Int32))).toNatClampNeg))) = 99) then (2 : Int32) else (if ((if (((x2 + x4) + (1 : Int32)) < 0) then (0 : Int32) else (if ((σ.1 (64 * (2 + j) + 1)) ≤ ((x2 + x4) + (1 : Int32))) then (0 : Int32) else (σ.2.1 (6 + j) (((x2 + x4) + (1 : Int32))).toNatClampNeg))) = 102) then (1 : Int32) else (if ((if (((x2 + x4) + (1 : Int32)) < 0) then (0 : Int32) else (if ((σ.1 (64 * (2 + j) + 1)) ≤ ((x2 + x4) + (1 : Int32))) then (0 : Int32) else (σ.2.1 (6 + j) (((x2 + x4) + (1 : Int32))).toNatClampNeg))) = 104) then (0 : Int32) else (-1 : Int32)))), .ref (ω.2.2.1 10)] σ) :
    V ω κ 26 [(0, .ref (ω.2.2.1 10)), (1, .ref (ω.2.2.1 (2 + j))), (2, .int x2), (3, .int x3), (4, .int x4)] [] σ := by
  refine V_iload 4 K.1 dX7_found_26 rfl ?_
  refine V_iload_n 3 K.1 dX7_found_28 rfl rfl ?_
  refine V_icmp_ge (tgt := 134) K.1 dX7_found_29 (by decide) (fun c29 => ?_) (fun c29 => ?_)
  · refine V_aload_n 0 K.1 dX7_found_134 rfl rfl ?_
    refine V_aload_n 0 K.1 dX7_found_135 rfl rfl ?_
    refine V_get (v := .int (σ.1 641)) K.1 dX7_found_136 rfl rfl fw_X7_25 rfl rfl ?_
    refine V_putI (key := 644) K.1 dX7_found_139 rfl rfl fw_X7_28 pw_X7_4 rfl rfl rfl rfl ?_
    refine V_iconst (v := 0) K.1 dX7_found_142 (by decide) ?_
    refine V_istore (L' := [(0, .ref (ω.2.2.1 10)), (1, .ref (ω.2.2.1 (2 + j))), (2, .int x2), (3, .int x3), (4, .int x4), (5, .int (0 : Int32))]) K.1 dX7_found_143 (by decide) rfl ?_
    exact V_sub [0, 5] rfl (k1 c29)
  · refine V_aload_n 0 K.1 dX7_found_32 rfl rfl ?_
    refine V_get (v := .int (σ.1 640)) K.1 dX7_found_33 rfl rfl fw_X7_21 rfl rfl ?_
    refine V_bipush (v := 8) K.1 dX7_found_36 (by decide) ?_
    refine V_icmp_ge (tgt := 134) K.1 dX7_found_38 (by decide) (fun c38 => ?_) (fun c38 => ?_)
    · refine V_aload_n 0 K.1 dX7_found_134 rfl rfl ?_
      refine V_aload_n 0 K.1 dX7_found_135 rfl rfl ?_
      refine V_get (v := .int (σ.1 641)) K.1 dX7_found_136 rfl rfl fw_X7_25 rfl rfl ?_
      refine V_putI (key := 644) K.1 dX7_found_139 rfl rfl fw_X7_28 pw_X7_4 rfl rfl rfl rfl ?_
      refine V_iconst (v := 0) K.1 dX7_found_142 (by decide) ?_
      refine V_istore (L' := [(0, .ref (ω.2.2.1 10)), (1, .ref (ω.2.2.1 (2 + j))), (2, .int x2), (3, .int x3), (4, .int x4), (5, .int (0 : Int32))]) K.1 dX7_found_143 (by decide) rfl ?_
      exact V_sub [0, 5] rfl (k2 c29 c38)
    · refine V_aload_n 0 K.1 dX7_found_41 rfl rfl ?_
      refine V_aload_n 1 K.1 dX7_found_42 rfl rfl ?_
      refine V_iload_n 2 K.1 dX7_found_43 rfl rfl ?_
      refine V_iload 4 K.1 dX7_found_44 rfl ?_
      refine V_iadd K.1 dX7_found_46 ?_
      refine V_iconst (v := 1) K.1 dX7_found_47 (by decide) ?_
      refine V_iadd K.1 dX7_found_48 ?_
      refine V_callV (d' := d - 1) (As := [.int ((x2 + x4) + (1 : Int32))]) K.1 dX7_found_49 cw_X7_31 (shO j hj) rfl rfl (by omega) rfl (by simp [Value.category]) (m_X6_at hj K.1.wf (by omega) (p3 c29 c38)) (go_I ?_)
      refine V_callS (d' := d - 1) (As := [.int (if (((x2 + x4) + (1 : Int32)) < 0) then (0 : Int32) else (if ((σ.1 (64 * (2 + j) + 1)) ≤ ((x2 + x4) + (1 : Int32))) then (0 : Int32) else (σ.2.1 (6 + j) (((x2 + x4) + (1 : Int32))).toNatClampNeg)))]) K.1 dX7_found_52 cw_X7_45 rfl (by omega) rfl (by simp [Value.category]) (m_X7_kindOf K.1.wf (by omega)) (go_I ?_)
      exact (k4 c29 c38)
set_option maxRecDepth 20000 in
theorem R_X7_found_58 {ω : WT} {κ : KT} {l : Launch} {d : Nat} {post : Option Value → St → Prop} {σ : St} {x2 x3 x4 : Int32} {j : Nat} (hj : j < 4) (K : Cm ω κ l yX7_found cX7_found 6 d none post)
    (k1 : V ω κ 61 [(0, .ref (ω.2.2.1 10)), (1, .ref (ω.2.2.1 (2 + j))), (2, .int x2), (3, .int x3), (4, .int x4), (5, .int (0 : Int32))] [] σ) :
    V ω κ 58 [(0, .ref (ω.2.2.1 10)), (1, .ref (ω.2.2.1 (2 + j))), (2, .int x2), (3, .int x3), (4, .int x4)] [] σ := by
  refine V_iconst (v := 0) K.1 dX7_found_58 (by decide) ?_
  refine V_istore (L' := [(0, .ref (ω.2.2.1 10)), (1, .ref (ω.2.2.1 (2 + j))), (2, .int x2), (3, .int x3), (4, .int x4), (5, .int (0 : Int32))]) K.1 dX7_found_59 (by decide) rfl ?_
  exact k1
set_option maxRecDepth 20000 in
theorem R_X7_found_61 {ω : WT} {κ : KT} {l : Launch} {d : Nat} {post : Option Value → St → Prop} {σ : St} {x2 x3 x4 x5 : Int32} {j : Nat} (hj : j < 4) (K : Cm ω κ l yX7_found cX7_found 6 d none post) (hdp : 1 ≤ d)
    (k1 : ((σ.1 641) ≤ x5) → V ω κ 26 [(0, .ref (ω.2.2.1 10)), (1, .ref (ω.2.2.1 (2 + j))), (2, .int x2), (3, .int x3), (4, .int (x4 + ((σ.1 641) + (2 : Int32))))] [] (pS σ 640 ((σ.1 640) + (1 : Int32))))
    (p2 : ¬ ((σ.1 641) ≤ x5) → ¬ ((((x2 + x4) + (2 : Int32)) + x5) < 0) → ¬ ((σ.1 (64 * (2 + j) + 1)) ≤ (((x2 + x4) + (2 : Int32)) + x5)) → vp_in (((x2 + x4) + (2 : Int32)) + x5) 80)
    (k3 : ¬ ((σ.1 641) ≤ x5) → ¬ ((if ((((x2 + x4) + (2 : Int32)) + x5) < 0) then (0 : Int32) else (if ((σ.1 (64 * (2 + j) + 1)) ≤ (((x2 + x4) + (2 : Int32)) + x5)) then (0 : Int32) else (σ.2.1 (6 + j) ((((x2 + x4) + (2 : Int32)) + x5)).toNatClampNeg))) = (121 : Int32)) → V ω κ 61 [(0, .ref (ω.2.2.1 10)), (1, .ref (ω.2.2.1 (2 + j))), (2, .int x2), (3, .int x3), (4, .int x4), (5, .int (x5 + 1))] [] σ)
    (b4 : ¬ ((σ.1 641) ≤ x5) → ((if ((((x2 + x4) + (2 : Int32)) + x5) < 0) then (0 : Int32) else (if ((σ.1 (64 * (2 + j) + 1)) ≤ (((x2 + x4) + (2 : Int32)) + x5)) then (0 : Int32) else (σ.2.1 (6 + j) ((((x2 + x4) + (2 : Int32)) + x5)).toNatClampNeg))) = (121 : Int32)) → vp_in x5 6)
    (b5 : ¬ ((σ.1 641) ≤ x5) → ((if ((((x2 + x4) + (2 : Int32)) + x5) < 0) then (0 : Int32) else (if ((σ.1 (64 * (2 + j) + 1)) ≤ (((x2 + x4) + (2 : Int32)) + x5)) then (0 : Int32) else (σ.2.1 (6 + j) ((((x2 + x4) + (2 : Int32)) + x5)).toNatClampNeg))) = (121 : Int32)) → vp_in x5 6)
    (k6 : ¬ ((σ.1 641) ≤ x5) → ((if ((((x2 + x4) + (2 : Int32)) + x5) < 0) then (0 : Int32) else (if ((σ.1 (64 * (2 + j) + 1)) ≤ (((x2 + x4) + (2 : Int32)) + x5)) then (0 : Int32) else (σ.2.1 (6 + j) ((((x2 + x4) + (2 : Int32)) + x5)).toNatClampNeg))) = (121 : Int32)) → V ω κ 61 [(0, .ref (ω.2.2.1 10)), (1, .ref (ω.2.2.1 (2 + j))), (2, .int x2), (3, .int x3), (4, .int x4), (5, .int (x5 + 1))] [] (pA σ 12 (x5).toNatClampNeg ((σ.2.1 12 (x5).toNatClampNeg) ||| ((1 : Int32) <<< ((σ.1 640) &&& 31))))) :
    V ω κ 61 [(0, .ref (ω.2.2.1 10)), (1, .ref (ω.2.2.1 (2 + j))), (2, .int x2), (3, .int x3), (4, .int x4), (5, .int x5)] [] σ := by
  refine V_iload 5 K.1 dX7_found_61 rfl ?_
  refine V_aload_n 0 K.1 dX7_found_63 rfl rfl ?_
  refine V_get (v := .int (σ.1 641)) K.1 dX7_found_64 rfl rfl fw_X7_25 rfl rfl ?_
  refine V_icmp_ge (tgt := 110) K.1 dX7_found_67 (by decide) (fun c67 => ?_) (fun c67 => ?_)
  · refine V_aload_n 0 K.1 dX7_found_110 rfl rfl ?_
    refine V_dup K.1 dX7_found_111 rfl ?_
    refine V_get (v := .int (σ.1 640)) K.1 dX7_found_112 rfl rfl fw_X7_21 rfl rfl ?_
    refine V_iconst (v := 1) K.1 dX7_found_115 (by decide) ?_
    refine V_iadd K.1 dX7_found_116 ?_
    refine V_putI (key := 640) K.1 dX7_found_117 rfl rfl fw_X7_21 pw_X7_0 rfl rfl rfl rfl ?_
    refine V_iload 4 K.1 dX7_found_120 rfl ?_
    refine V_aload_n 0 K.1 dX7_found_122 rfl rfl ?_
    refine V_get (v := .int (σ.1 641)) K.1 dX7_found_123 rfl rfl fw_X7_25 rfl rfl ?_
    refine V_iconst (v := 2) K.1 dX7_found_126 (by decide) ?_
    refine V_iadd K.1 dX7_found_127 ?_
    refine V_iadd K.1 dX7_found_128 ?_
    refine V_istore (L' := [(0, .ref (ω.2.2.1 10)), (1, .ref (ω.2.2.1 (2 + j))), (2, .int x2), (3, .int x3), (4, .int (x4 + ((σ.1 641) + (2 : Int32)))), (5, .int x5)]) K.1 dX7_found_129 (by decide) rfl ?_
    refine V_goto (tgt := 26) K.1 dX7_found_131 (by decide) ?_
    exact V_sub [0, 1, 2, 3, 4] rfl (k1 c67)
  · refine V_aload_n 1 K.1 dX7_found_70 rfl rfl ?_
    refine V_iload_n 2 K.1 dX7_found_71 rfl rfl ?_
    refine V_iload 4 K.1 dX7_found_72 rfl ?_
    refine V_iadd K.1 dX7_found_74 ?_
    refine V_iconst (v := 2) K.1 dX7_found_75 (by decide) ?_
    refine V_iadd K.1 dX7_found_76 ?_
    refine V_iload 5 K.1 dX7_found_77 rfl ?_
    refine V_iadd K.1 dX7_found_79 ?_
    refine V_callV (d' := d - 1) (As := [.int (((x2 + x4) + (2 : Int32)) + x5)]) K.1 dX7_found_80 cw_X7_31 (shO j hj) rfl rfl (by omega) rfl (by simp [Value.category]) (m_X6_at hj K.1.wf (by omega) (p2 c67)) (go_I ?_)
    refine V_bipush (v := 121) K.1 dX7_found_83 (by decide) ?_
    refine V_icmp_ne (tgt := 104) K.1 dX7_found_85 (by decide) (fun c85 => ?_) (fun c85 => ?_)
    · refine V_iinc (v := (x5 + 1)) (L' := [(0, .ref (ω.2.2.1 10)), (1, .ref (ω.2.2.1 (2 + j))), (2, .int x2), (3, .int x3), (4, .int x4), (5, .int (x5 + 1))]) 5 K.1 dX7_found_104 rfl rfl (by decide) rfl ?_
      refine V_goto (tgt := 61) K.1 dX7_found_107 (by decide) ?_
      exact (k3 c67 c85)
    · refine V_aload_n 0 K.1 dX7_found_88 rfl rfl ?_
      refine V_get (v := .ref (ω.2.2.1 12)) K.1 dX7_found_89 rfl rfl fw_X7_15 rfl rfl ?_
      refine V_iload 5 K.1 dX7_found_92 rfl ?_
      refine V_dup2 K.1 dX7_found_94 rfl rfl ?_
      refine V_iaload (v := (σ.2.1 12 (x5).toNatClampNeg)) K.1 dX7_found_95 rfl (b4 c67 c85) rfl ?_
      refine V_iconst (v := 1) K.1 dX7_found_96 (by decide) ?_
      refine V_aload_n 0 K.1 dX7_found_97 rfl rfl ?_
      refine V_get (v := .int (σ.1 640)) K.1 dX7_found_98 rfl rfl fw_X7_21 rfl rfl ?_
      refine V_ishl K.1 dX7_found_101 ?_
      refine V_ior K.1 dX7_found_102 ?_
      refine V_iastore K.1 dX7_found_103 rfl (b5 c67 c85) ?_
      refine V_iinc (v := (x5 + 1)) (L' := [(0, .ref (ω.2.2.1 10)), (1, .ref (ω.2.2.1 (2 + j))), (2, .int x2), (3, .int x3), (4, .int x4), (5, .int (x5 + 1))]) 5 K.1 dX7_found_104 rfl rfl (by decide) rfl ?_
      refine V_goto (tgt := 61) K.1 dX7_found_107 (by decide) ?_
      exact (k6 c67 c85)
set_option maxRecDepth 20000 in
theorem R_X7_found_145 {ω : WT} {κ : KT} {l : Launch} {d : Nat} {post : Option Value → St → Prop} {σ : St} {x5 : Int32}  (K : Cm ω κ l yX7_found cX7_found 6 d none post)
    (k1 : ((σ.1 641) ≤ x5) → post none σ)
    (b2 : ¬ ((σ.1 641) ≤ x5) → vp_in x5 6)
    (k3 : ¬ ((σ.1 641) ≤ x5) → V ω κ 145 [(0, .ref (ω.2.2.1 10)), (5, .int (x5 + 1))] [] (pA σ 13 (x5).toNatClampNeg x5)) :
    V ω κ 145 [(0, .ref (ω.2.2.1 10)), (5, .int x5)] [] σ := by
  refine V_iload 1 K.1 dX7_found_145 rfl ?_
  refine V_aload_n 0 K.1 dX7_found_147 rfl rfl ?_
  refine V_get (v := .int (σ.1 641)) K.1 dX7_found_148 rfl rfl fw_X7_25 rfl rfl ?_
  refine V_icmp_ge (tgt := 169) K.1 dX7_found_151 (by decide) (fun c151 => ?_) (fun c151 => ?_)
  · exact V_vret K dX7_found_169 (k1 c151)
  · refine V_aload_n 0 K.1 dX7_found_154 rfl rfl ?_
    refine V_get (v := .ref (ω.2.2.1 13)) K.1 dX7_found_155 rfl rfl fw_X7_18 rfl rfl ?_
    refine V_iload 1 K.1 dX7_found_158 rfl ?_
    refine V_iload 1 K.1 dX7_found_160 rfl ?_
    refine V_iastore K.1 dX7_found_162 rfl (b2 c151) ?_
    refine V_iinc (v := (x5 + 1)) (L' := [(0, .ref (ω.2.2.1 10)), (5, .int (x5 + 1))]) 1 K.1 dX7_found_163 rfl rfl (by decide) rfl ?_
    refine V_goto (tgt := 145) K.1 dX7_found_166 (by decide) ?_
    exact (k3 c151)
set_option maxRecDepth 20000 in
theorem C_X7_found_1 {ω : WT} {κ : KT} {l : Launch} {d : Nat} {post : Option Value → St → Prop} {σ : St} {x2 x3 : Int32} {j : Nat} (hj : j < 4) {post' : Option Value → St → Prop} (K : Cm ω κ l yX7_found cX7_found 6 d none post) (hdp : 1 ≤ d) (hM : Sp ω l yX7_clear cX7_clear 1 none (d - 1) [.ref (ω.2.2.1 10)] σ post')
    (kk : ∀ (v : Option Value) (σ' : St), post' v σ' → V ω κ 4 [(0, .ref (ω.2.2.1 10)), (1, .ref (ω.2.2.1 (2 + j))), (2, .int x2), (3, .int x3)] (v.toList ++ []) σ') : V ω κ 1 [(0, .ref (ω.2.2.1 10)), (1, .ref (ω.2.2.1 (2 + j))), (2, .int x2), (3, .int x3)] [.ref (ω.2.2.1 10)] σ := by
  exact V_callV (d' := d - 1) (As := []) (rest := []) K.1 dX7_found_1 cw_X7_48 rfl rfl rfl (by omega) rfl (by simp [Value.category]) hM (fun v σ' h => kk v σ' h)
set_option maxRecDepth 20000 in
theorem C_X7_found_55 {ω : WT} {κ : KT} {l : Launch} {d : Nat} {post : Option Value → St → Prop} {σ : St} {x2 x3 x4 s1 : Int32} {j : Nat} (hj : j < 4) {post' : Option Value → St → Prop} (K : Cm ω κ l yX7_found cX7_found 6 d none post) (hdp : 1 ≤ d) (hM : Sp ω l yX7_settle cX7_settle 2 none (d - 1) [.ref (ω.2.2.1 10), .int s1] σ post')
    (kk : ∀ (v : Option Value) (σ' : St), post' v σ' → V ω κ 58 [(0, .ref (ω.2.2.1 10)), (1, .ref (ω.2.2.1 (2 + j))), (2, .int x2), (3, .int x3), (4, .int x4)] (v.toList ++ []) σ') : V ω κ 55 [(0, .ref (ω.2.2.1 10)), (1, .ref (ω.2.2.1 (2 + j))), (2, .int x2), (3, .int x3), (4, .int x4)] [.int s1, .ref (ω.2.2.1 10)] σ := by
  exact V_callV (d' := d - 1) (As := [.int s1]) (rest := []) K.1 dX7_found_55 cw_X7_57 rfl rfl rfl (by omega) rfl (by simp [Value.category]) hM (fun v σ' h => kk v σ' h)
set_option maxRecDepth 20000 in
theorem R_X7_firstFault_0 {ω : WT} {κ : KT} {l : Launch} {d : Nat} {post : Option Value → St → Prop} {σ : St} {x1 x2 : Int32} {j : Nat} (hj : j < 4) (K : Cm ω κ l yX7_firstFault cX7_firstFault 7 d (some .int) post) (hdp : 1 ≤ d)
    (k1 : (x2 < (1 : Int32)) → post (some (.int (0 : Int32))) σ)
    (p2 : ¬ (x2 < (1 : Int32)) → ¬ (x1 < 0) → ¬ ((σ.1 (64 * (2 + j) + 1)) ≤ x1) → vp_in x1 80)
    (k3 : ¬ (x2 < (1 : Int32)) → ((if (x1 < 0) then (0 : Int32) else (if ((σ.1 (64 * (2 + j) + 1)) ≤ x1) then (0 : Int32) else (σ.2.1 (6 + j) (x1).toNatClampNeg))) = (109 : Int32)) → (x2 < (2 : Int32)) → post (some (.int (1 : Int32))) σ)
    (p4 : ¬ (x2 < (1 : Int32)) → ((if (x1 < 0) then (0 : Int32) else (if ((σ.1 (64 * (2 + j) + 1)) ≤ x1) then (0 : Int32) else (σ.2.1 (6 + j) (x1).toNatClampNeg))) = (109 : Int32)) → ¬ (x2 < (2 : Int32)) → ¬ ((x1 + (1 : Int32)) < 0) → ¬ ((σ.1 (64 * (2 + j) + 1)) ≤ (x1 + (1 : Int32))) → vp_in (x1 + (1 : Int32)) 80)
    (p5 : ¬ (x2 < (1 : Int32)) → ((if (x1 < 0) then (0 : Int32) else (if ((σ.1 (64 * (2 + j) + 1)) ≤ x1) then (0 : Int32) else (σ.2.1 (6 + j) (x1).toNatClampNeg))) = (109 : Int32)) → ¬ (x2 < (2 : Int32)) → ¬ ((if ((if ((x1 + (1 : Int32)) < 0) then (0 : Int32) else (if ((σ.1 (64 * (2 + j) + 1)) ≤ (x1 + (1 : Int32))) then (0 : Int32) else (σ.2.1 (6 + j) ((x1 + (1 : Int32))).toNatClampNeg))) < (49 : Int32)) then (0 : Int32) else (if ((54 : Int32) < (if ((x1 + (1 : Int32)) < 0) then (0 : Int32) else (if ((σ.1 (64 * (2 + j) + 1)) ≤ (x1 + (1 : Int32))) then (0 : Int32) else (σ.2.1 (6 + j) ((x1 + (1 : Int32))).toNatClampNeg)))) then (0 : Int32) else (1 : Int32))) = 0) → ¬ ((x1 + (1 : Int32)) < 0) → ¬ ((σ.1 (64 * (2 + j) + 1)) ≤ (x1 + (1 : Int32))) → vp_in (x1 + (1 : Int32)) 80)
    (k6 : ¬ (x2 < (1 : Int32)) → ((if (x1 < 0) then (0 : Int32) else (if ((σ.1 (64 * (2 + j) + 1)) ≤ x1) then (0 : Int32) else (σ.2.1 (6 + j) (x1).toNatClampNeg))) = (109 : Int32)) → ¬ (x2 < (2 : Int32)) → ¬ ((if ((if ((x1 + (1 : Int32)) < 0) then (0 : Int32) else (if ((σ.1 (64 * (2 + j) + 1)) ≤ (x1 + (1 : Int32))) then (0 : Int32) else (σ.2.1 (6 + j) ((x1 + (1 : Int32))).toNatClampNeg))) < (49 : Int32)) then (0 : Int32) else (if ((54 : Int32) < (if ((x1 + (1 : Int32)) < 0) then (0 : Int32) else (if ((σ.1 (64 * (2 + j) + 1)) ≤ (x1 + (1 : Int32))) then (0 : Int32) else (σ.2.1 (6 + j) ((x1 + (1 : Int32))).toNatClampNeg)))) then (0 : Int32) else (1 : Int32))) = 0) → V ω κ 59 [(0, .ref (ω.2.2.1 (2 + j))), (1, .int x1), (2, .int x2), (3, .int (((if ((x1 + (1 : Int32)) < 0) then (0 : Int32) else (if ((σ.1 (64 * (2 + j) + 1)) ≤ (x1 + (1 : Int32))) then (0 : Int32) else (σ.2.1 (6 + j) ((x1 + (1 : Int32))).toNatClampNeg))) - (48 : Int32)) + (2 : Int32))), (4, .int (0 : Int32)), (5, .int (0 : Int32)), (6, .int (2 : Int32))] [] σ)
    (k7 : ¬ (x2 < (1 : Int32)) → ((if (x1 < 0) then (0 : Int32) else (if ((σ.1 (64 * (2 + j) + 1)) ≤ x1) then (0 : Int32) else (σ.2.1 (6 + j) (x1).toNatClampNeg))) = (109 : Int32)) → ¬ (x2 < (2 : Int32)) → ((if ((if ((x1 + (1 : Int32)) < 0) then (0 : Int32) else (if ((σ.1 (64 * (2 + j) + 1)) ≤ (x1 + (1 : Int32))) then (0 : Int32) else (σ.2.1 (6 + j) ((x1 + (1 : Int32))).toNatClampNeg))) < (49 : Int32)) then (0 : Int32) else (if ((54 : Int32) < (if ((x1 + (1 : Int32)) < 0) then (0 : Int32) else (if ((σ.1 (64 * (2 + j) + 1)) ≤ (x1 + (1 : Int32))) then (0 : Int32) else (σ.2.1 (6 + j) ((x1 + (1 : Int32))).toNatClampNeg)))) then (0 : Int32) else (1 : Int32))) = 0) → post (some (.int (1 : Int32))) σ)
    (k8 : ¬ (x2 < (1 : Int32)) → ¬ ((if (x1 < 0) then (0 : Int32) else (if ((σ.1 (64 * (2 + j) + 1)) ≤ x1) then (0 : Int32) else (σ.2.1 (6 + j) (x1).toNatClampNeg))) = (109 : Int32)) → post (some (.int (0 : Int32))) σ) :
    V ω κ 0 [(0, .ref (ω.2.2.1 (2 + j))), (1, .int x1), (2, .int x2)] [] σ := by
  refine V_iload_n 2 K.1 dX7_firstFault_0 rfl rfl ?_
  refine V_iconst (v := 1) K.1 dX7_firstFault_1 (by decide) ?_
  refine V_icmp_lt (tgt := 15) K.1 dX7_firstFault_2 (by decide) (fun c2 => ?_) (fun c2 => ?_)
  · refine V_iconst (v := 0) K.1 dX7_firstFault_15 (by decide) ?_
    exact V_iret K dX7_firstFault_16 (k1 c2)
  · refine V_aload_n 0 K.1 dX7_firstFault_5 rfl rfl ?_
    refine V_iload_n 1 K.1 dX7_firstFault_6 rfl rfl ?_
    refine V_callV (d' := d - 1) (As := [.int x1]) K.1 dX7_firstFault_7 cw_X7_31 (shO j hj) rfl rfl (by omega) rfl (by simp [Value.category]) (m_X6_at hj K.1.wf (by omega) (p2 c2)) (go_I ?_)
    refine V_bipush (v := 109) K.1 dX7_firstFault_10 (by decide) ?_
    refine V_icmp_eq (tgt := 17) K.1 dX7_firstFault_12 (by decide) (fun c12 => ?_) (fun c12 => ?_)
    · refine V_iload_n 2 K.1 dX7_firstFault_17 rfl rfl ?_
      refine V_iconst (v := 2) K.1 dX7_firstFault_18 (by decide) ?_
      refine V_icmp_lt (tgt := 35) K.1 dX7_firstFault_19 (by decide) (fun c19 => ?_) (fun c19 => ?_)
      · refine V_iconst (v := 1) K.1 dX7_firstFault_35 (by decide) ?_
        exact V_iret K dX7_firstFault_36 (k3 c2 c12 c19)
      · refine V_aload_n 0 K.1 dX7_firstFault_22 rfl rfl ?_
        refine V_iload_n 1 K.1 dX7_firstFault_23 rfl rfl ?_
        refine V_iconst (v := 1) K.1 dX7_firstFault_24 (by decide) ?_
        refine V_iadd K.1 dX7_firstFault_25 ?_
        refine V_callV (d' := d - 1) (As := [.int (x1 + (1 : Int32))]) K.1 dX7_firstFault_26 cw_X7_31 (shO j hj) rfl rfl (by omega) rfl (by simp [Value.category]) (m_X6_at hj K.1.wf (by omega) (p4 c2 c12 c19)) (go_I ?_)
        refine V_callS (d' := d - 1) (As := [.int (if ((x1 + (1 : Int32)) < 0) then (0 : Int32) else (if ((σ.1 (64 * (2 + j) + 1)) ≤ (x1 + (1 : Int32))) then (0 : Int32) else (σ.2.1 (6 + j) ((x1 + (1 : Int32))).toNatClampNeg)))]) K.1 dX7_firstFault_29 cw_X7_37 rfl (by omega) rfl (by simp [Value.category]) (m_X7_isDigitOfMatters K.1.wf (by omega)) (go_I ?_)
        refine V_if_ne (tgt := 37) K.1 dX7_firstFault_32 (by decide) (fun c32 => ?_) (fun c32 => ?_)
        · refine V_aload_n 0 K.1 dX7_firstFault_37 rfl rfl ?_
          refine V_iload_n 1 K.1 dX7_firstFault_38 rfl rfl ?_
          refine V_iconst (v := 1) K.1 dX7_firstFault_39 (by decide) ?_
          refine V_iadd K.1 dX7_firstFault_40 ?_
          refine V_callV (d' := d - 1) (As := [.int (x1 + (1 : Int32))]) K.1 dX7_firstFault_41 cw_X7_31 (shO j hj) rfl rfl (by omega) rfl (by simp [Value.category]) (m_X6_at hj K.1.wf (by omega) (p5 c2 c12 c19 c32)) (go_I ?_)
          refine V_bipush (v := 48) K.1 dX7_firstFault_44 (by decide) ?_
          refine V_isub K.1 dX7_firstFault_46 ?_
          refine V_iconst (v := 2) K.1 dX7_firstFault_47 (by decide) ?_
          refine V_iadd K.1 dX7_firstFault_48 ?_
          refine V_istore_n (L' := [(0, .ref (ω.2.2.1 (2 + j))), (1, .int x1), (2, .int x2), (3, .int (((if ((x1 + (1 : Int32)) < 0) then (0 : Int32) else (if ((σ.1 (64 * (2 + j) + 1)) ≤ (x1 + (1 : Int32))) then (0 : Int32) else (σ.2.1 (6 + j) ((x1 + (1 : Int32))).toNatClampNeg))) - (48 : Int32)) + (2 : Int32)))]) K.1 dX7_firstFault_49 rfl (by decide) rfl ?_
          refine V_iconst (v := 0) K.1 dX7_firstFault_50 (by decide) ?_
          refine V_istore (L' := [(0, .ref (ω.2.2.1 (2 + j))), (1, .int x1), (2, .int x2), (3, .int (((if ((x1 + (1 : Int32)) < 0) then (0 : Int32) else (if ((σ.1 (64 * (2 + j) + 1)) ≤ (x1 + (1 : Int32))) then (0 : Int32) else (σ.2.1 (6 + j) ((x1 + (1 : Int32))).toNatClampNeg))) - (48 : Int32)) + (2 : Int32))), (4, .int (0 : Int32))]) K.1 dX7_firstFault_51 (by decide) rfl ?_
          refine V_iconst (v := 0) K.1 dX7_firstFault_53 (by decide) ?_
          refine V_istore (L' := [(0, .ref (ω.2.2.1 (2 + j))), (1, .int x1), (2, .int x2), (3, .int (((if ((x1 + (1 : Int32)) < 0) then (0 : Int32) else (if ((σ.1 (64 * (2 + j) + 1)) ≤ (x1 + (1 : Int32))) then (0 : Int32) else (σ.2.1 (6 + j) ((x1 + (1 : Int32))).toNatClampNeg))) - (48 : Int32)) + (2 : Int32))), (4, .int (0 : Int32)), (5, .int (0 : Int32))]) K.1 dX7_firstFault_54 (by decide) rfl ?_
          refine V_iconst (v := 2) K.1 dX7_firstFault_56 (by decide) ?_
          refine V_istore (L' := [(0, .ref (ω.2.2.1 (2 + j))), (1, .int x1), (2, .int x2), (3, .int (((if ((x1 + (1 : Int32)) < 0) then (0 : Int32) else (if ((σ.1 (64 * (2 + j) + 1)) ≤ (x1 + (1 : Int32))) then (0 : Int32) else (σ.2.1 (6 + j) ((x1 + (1 : Int32))).toNatClampNeg))) - (48 : Int32)) + (2 : Int32))), (4, .int (0 : Int32)), (5, .int (0 : Int32)), (6, .int (2 : Int32))]) K.1 dX7_firstFault_57 (by decide) rfl ?_
          exact (k6 c2 c12 c19 c32)
        · refine V_iconst (v := 1) K.1 dX7_firstFault_35 (by decide) ?_
          exact V_iret K dX7_firstFault_36 (k7 c2 c12 c19 c32)
    · refine V_iconst (v := 0) K.1 dX7_firstFault_15 (by decide) ?_
      exact V_iret K dX7_firstFault_16 (k8 c2 c12)
set_option maxRecDepth 20000 in
theorem R_X7_firstFault_59 {ω : WT} {κ : KT} {l : Launch} {d : Nat} {post : Option Value → St → Prop} {σ : St} {x1 x2 x3 x4 x5 x6 : Int32} {j : Nat} (hj : j < 4) (K : Cm ω κ l yX7_firstFault cX7_firstFault 7 d (some .int) post) (hdp : 2 ≤ d)
    (k2 : (x2 ≤ x6) → post (some (.int (if (x4 < (2 : Int32)) then x2 else (if (x5 = 0) then (-1 : Int32) else x2)))) σ)
    (k3 : ¬ (x2 ≤ x6) → (x4 = (8 : Int32)) → post (some (.int x6)) σ)
    (p4 : ¬ (x2 ≤ x6) → ¬ (x4 = (8 : Int32)) → ¬ ((x1 + x6) < 0) → ¬ ((σ.1 (64 * (2 + j) + 1)) ≤ (x1 + x6)) → vp_in (x1 + x6) 80)
    (p5 : ¬ (x2 ≤ x6) → ¬ (x4 = (8 : Int32)) → ¬ (x5 = 0) → (x5 = 1) → (if ((if ((if ((x1 + x6) < 0) then (0 : Int32) else (if ((σ.1 (64 * (2 + j) + 1)) ≤ (x1 + x6)) then (0 : Int32) else (σ.2.1 (6 + j) ((x1 + x6)).toNatClampNeg))) = 99) then (2 : Int32) else (if ((if ((x1 + x6) < 0) then (0 : Int32) else (if ((σ.1 (64 * (2 + j) + 1)) ≤ (x1 + x6)) then (0 : Int32) else (σ.2.1 (6 + j) ((x1 + x6)).toNatClampNeg))) = 102) then (1 : Int32) else (if ((if ((x1 + x6) < 0) then (0 : Int32) else (if ((σ.1 (64 * (2 + j) + 1)) ≤ (x1 + x6)) then (0 : Int32) else (σ.2.1 (6 + j) ((x1 + x6)).toNatClampNeg))) = 104) then (0 : Int32) else (-1 : Int32)))) < 0) then (0 : Int32) else (1 : Int32)) = 0 ∨ (if ((if ((if ((x1 + x6) < 0) then (0 : Int32) else (if ((σ.1 (64 * (2 + j) + 1)) ≤ (x1 + x6)) then (0 : Int32) else (σ.2.1 (6 + j) ((x1 + x6)).toNatClampNeg))) = 99) then (2 : Int32) else (if ((if ((x1 + x6) < 0) then (0 : Int32) else (if ((σ.1 (64 * (2 + j) + 1)) ≤ (x1 + x6)) then (0 : Int32) else (σ.2.1 (6 + j) ((x1 + x6)).toNatClampNeg))) = 102) then (1 : Int32) else (if ((if ((x1 + x6) < 0) then (0 : Int32) else (if ((σ.1 (64 * (2 + j) + 1)) ≤ (x1 + x6)) then (0 : Int32) else (σ.2.1 (6 + j) ((x1 + x6)).toNatClampNeg))) = 104) then (0 : Int32) else (-1 : Int32)))) < 0) then (0 : Int32) else (1 : Int32)) = 1)
    (k6 : ¬ (x2 ≤ x6) → ¬ (x4 = (8 : Int32)) → ¬ ((if (x5 = 0) then (if ((if ((x1 + x6) < 0) then (0 : Int32) else (if ((σ.1 (64 * (2 + j) + 1)) ≤ (x1 + x6)) then (0 : Int32) else (σ.2.1 (6 + j) ((x1 + x6)).toNatClampNeg))) = (59 : Int32)) then (1 : Int32) else (0 : Int32)) else (if (x5 = 1) then (if ((if ((if ((x1 + x6) < 0) then (0 : Int32) else (if ((σ.1 (64 * (2 + j) + 1)) ≤ (x1 + x6)) then (0 : Int32) else (σ.2.1 (6 + j) ((x1 + x6)).toNatClampNeg))) = 99) then (2 : Int32) else (if ((if ((x1 + x6) < 0) then (0 : Int32) else (if ((σ.1 (64 * (2 + j) + 1)) ≤ (x1 + x6)) then (0 : Int32) else (σ.2.1 (6 + j) ((x1 + x6)).toNatClampNeg))) = 102) then (1 : Int32) else (if ((if ((x1 + x6) < 0) then (0 : Int32) else (if ((σ.1 (64 * (2 + j) + 1)) ≤ (x1 + x6)) then (0 : Int32) else (σ.2.1 (6 + j) ((x1 + x6)).toNatClampNeg))) = 104) then (0 : Int32) else (-1 : Int32)))) < 0) then (0 : Int32) else (1 : Int32)) else (if ((if ((x1 + x6) < 0) then (0 : Int32) else (if ((σ.1 (64 * (2 + j) + 1)) ≤ (x1 + x6)) then (0 : Int32) else (σ.2.1 (6 + j) ((x1 + x6)).toNatClampNeg))) = (121 : Int32)) then (1 : Int32) else (if ((if ((x1 + x6) < 0) then (0 : Int32) else (if ((σ.1 (64 * (2 + j) + 1)) ≤ (x1 + x6)) then (0 : Int32) else (σ.2.1 (6 + j) ((x1 + x6)).toNatClampNeg))) = (110 : Int32)) then (1 : Int32) else (0 : Int32))))) = 0) → ¬ ((x5 + 1) = x3) → V ω κ 59 [(0, .ref (ω.2.2.1 (2 + j))), (1, .int x1), (2, .int x2), (3, .int x3), (4, .int x4), (5, .int (x5 + 1)), (6, .int (x6 + 1))] [] σ)
    (k7 : ¬ (x2 ≤ x6) → ¬ (x4 = (8 : Int32)) → ¬ ((if (x5 = 0) then (if ((if ((x1 + x6) < 0) then (0 : Int32) else (if ((σ.1 (64 * (2 + j) + 1)) ≤ (x1 + x6)) then (0 : Int32) else (σ.2.1 (6 + j) ((x1 + x6)).toNatClampNeg))) = (59 : Int32)) then (1 : Int32) else (0 : Int32)) else (if (x5 = 1) then (if ((if ((if ((x1 + x6) < 0) then (0 : Int32) else (if ((σ.1 (64 * (2 + j) + 1)) ≤ (x1 + x6)) then (0 : Int32) else (σ.2.1 (6 + j) ((x1 + x6)).toNatClampNeg))) = 99) then (2 : Int32) else (if ((if ((x1 + x6) < 0) then (0 : Int32) else (if ((σ.1 (64 * (2 + j) + 1)) ≤ (x1 + x6)) then (0 : Int32) else (σ.2.1 (6 + j) ((x1 + x6)).toNatClampNeg))) = 102) then (1 : Int32) else (if ((if ((x1 + x6) < 0) then (0 : Int32) else (if ((σ.1 (64 * (2 + j) + 1)) ≤ (x1 + x6)) then (0 : Int32) else (σ.2.1 (6 + j) ((x1 + x6)).toNatClampNeg))) = 104) then (0 : Int32) else (-1 : Int32)))) < 0) then (0 : Int32) else (1 : Int32)) else (if ((if ((x1 + x6) < 0) then (0 : Int32) else (if ((σ.1 (64 * (2 + j) + 1)) ≤ (x1 + x6)) then (0 : Int32) else (σ.2.1 (6 + j) ((x1 + x6)).toNatClampNeg))) = (121 : Int32)) then (1 : Int32) else (if ((if ((x1 + x6) < 0) then (0 : Int32) else (if ((σ.1 (64 * (2 + j) + 1)) ≤ (x1 + x6)) then (0 : Int32) else (σ.2.1 (6 + j) ((x1 + x6)).toNatClampNeg))) = (110 : Int32)) then (1 : Int32) else (0 : Int32))))) = 0) → ((x5 + 1) = x3) → V ω κ 59 [(0, .ref (ω.2.2.1 (2 + j))), (1, .int x1), (2, .int x2), (3, .int x3), (4, .int (x4 + 1)), (5, .int (0 : Int32)), (6, .int (x6 + 1))] [] σ)
    (k8 : ¬ (x2 ≤ x6) → ¬ (x4 = (8 : Int32)) → ((if (x5 = 0) then (if ((if ((x1 + x6) < 0) then (0 : Int32) else (if ((σ.1 (64 * (2 + j) + 1)) ≤ (x1 + x6)) then (0 : Int32) else (σ.2.1 (6 + j) ((x1 + x6)).toNatClampNeg))) = (59 : Int32)) then (1 : Int32) else (0 : Int32)) else (if (x5 = 1) then (if ((if ((if ((x1 + x6) < 0) then (0 : Int32) else (if ((σ.1 (64 * (2 + j) + 1)) ≤ (x1 + x6)) then (0 : Int32) else (σ.2.1 (6 + j) ((x1 + x6)).toNatClampNeg))) = 99) then (2 : Int32) else (if ((if ((x1 + x6) < 0) then (0 : Int32) else (if ((σ.1 (64 * (2 + j) + 1)) ≤ (x1 + x6)) then (0 : Int32) else (σ.2.1 (6 + j) ((x1 + x6)).toNatClampNeg))) = 102) then (1 : Int32) else (if ((if ((x1 + x6) < 0) then (0 : Int32) else (if ((σ.1 (64 * (2 + j) + 1)) ≤ (x1 + x6)) then (0 : Int32) else (σ.2.1 (6 + j) ((x1 + x6)).toNatClampNeg))) = 104) then (0 : Int32) else (-1 : Int32)))) < 0) then (0 : Int32) else (1 : Int32)) else (if ((if ((x1 + x6) < 0) then (0 : Int32) else (if ((σ.1 (64 * (2 + j) + 1)) ≤ (x1 + x6)) then (0 : Int32) else (σ.2.1 (6 + j) ((x1 + x6)).toNatClampNeg))) = (121 : Int32)) then (1 : Int32) else (if ((if ((x1 + x6) < 0) then (0 : Int32) else (if ((σ.1 (64 * (2 + j) + 1)) ≤ (x1 + x6)) then (0 : Int32) else (σ.2.1 (6 + j) ((x1 + x6)).toNatClampNeg))) = (110 : Int32)) then (1 : Int32) else (0 : Int32))))) = 0) → post (some (.int x6)) σ) :
    V ω κ 59 [(0, .ref (ω.2.2.1 (2 + j))), (1, .int x1), (2, .int x2), (3, .int x3), (4, .int x4), (5, .int x5), (6, .int x6)] [] σ := by
  refine V_iload 6 K.1 dX7_firstFault_59 rfl ?_
  refine V_iload_n 2 K.1 dX7_firstFault_61 rfl rfl ?_
  refine V_icmp_ge (tgt := 112) K.1 dX7_firstFault_62 (by decide) (fun c62 => ?_) (fun c62 => ?_)
  · refine V_iload 4 K.1 dX7_firstFault_112 rfl ?_
    refine V_iconst (v := 2) K.1 dX7_firstFault_114 (by decide) ?_
    refine V_join (J := 128) (S := []) (v := .int (if (x4 < (2 : Int32)) then x2 else (if (x5 = 0) then (-1 : Int32) else x2))) (fun hJ1 => ?_) ?_
    · refine V_icmp_lt (tgt := 127) K.1 dX7_firstFault_115 (by decide) (fun c115 => ?_) (fun c115 => ?_)
      · refine V_iload_n 2 K.1 dX7_firstFault_127 rfl rfl ?_
        exact V_top (if_pos c115) hJ1
      · refine V_iload 5 K.1 dX7_firstFault_118 rfl ?_
        refine V_if_ne (tgt := 127) K.1 dX7_firstFault_120 (by decide) (fun c120 => ?_) (fun c120 => ?_)
        · refine V_iload_n 2 K.1 dX7_firstFault_127 rfl rfl ?_
          exact V_top ((if_neg c115).trans (if_neg c120)) hJ1
        · refine V_iconst (v := -1) K.1 dX7_firstFault_123 (by decide) ?_
          refine V_goto (tgt := 128) K.1 dX7_firstFault_124 (by decide) ?_
          exact V_top ((if_neg c115).trans (if_pos c120)) hJ1
    exact V_iret K dX7_firstFault_128 (k2 c62)
  · refine V_iload 4 K.1 dX7_firstFault_65 rfl ?_
    refine V_bipush (v := 8) K.1 dX7_firstFault_67 (by decide) ?_
    refine V_icmp_eq (tgt := 88) K.1 dX7_firstFault_69 (by decide) (fun c69 => ?_) (fun c69 => ?_)
    · refine V_iload 6 K.1 dX7_firstFault_88 rfl ?_
      exact V_iret K dX7_firstFault_90 (k3 c62 c69)
    · refine V_iload 5 K.1 dX7_firstFault_72 rfl ?_
      refine V_aload_n 0 K.1 dX7_firstFault_74 rfl rfl ?_
      refine V_iload_n 1 K.1 dX7_firstFault_75 rfl rfl ?_
      refine V_iload 6 K.1 dX7_firstFault_76 rfl ?_
      refine V_iadd K.1 dX7_firstFault_78 ?_
      refine V_callV (d' := d - 1) (As := [.int (x1 + x6)]) K.1 dX7_firstFault_79 cw_X7_31 (shO j hj) rfl rfl (by omega) rfl (by simp [Value.category]) (m_X6_at hj K.1.wf (by omega) (p4 c62 c69)) (go_I ?_)
      refine V_callS (d' := d - 1) (As := [.int x5, .int (if ((x1 + x6) < 0) then (0 : Int32) else (if ((σ.1 (64 * (2 + j) + 1)) ≤ (x1 + x6)) then (0 : Int32) else (σ.2.1 (6 + j) ((x1 + x6)).toNatClampNeg)))]) K.1 dX7_firstFault_82 cw_X7_41 rfl (by omega) rfl (by simp [Value.category]) (m_X7_goesOn K.1.wf (by omega) (p5 c62 c69)) (go_I ?_)
      refine V_if_ne (tgt := 91) K.1 dX7_firstFault_85 (by decide) (fun c85 => ?_) (fun c85 => ?_)
      · refine V_iinc (v := (x5 + 1)) (L' := [(0, .ref (ω.2.2.1 (2 + j))), (1, .int x1), (2, .int x2), (3, .int x3), (4, .int x4), (5, .int (x5 + 1)), (6, .int x6)]) 5 K.1 dX7_firstFault_91 rfl rfl (by decide) rfl ?_
        refine V_iload 5 K.1 dX7_firstFault_94 rfl ?_
        refine V_iload_n 3 K.1 dX7_firstFault_96 rfl rfl ?_
        refine V_icmp_ne (tgt := 106) K.1 dX7_firstFault_97 (by decide) (fun c97 => ?_) (fun c97 => ?_)
        · refine V_iinc (v := (x6 + 1)) (L' := [(0, .ref (ω.2.2.1 (2 + j))), (1, .int x1), (2, .int x2), (3, .int x3), (4, .int x4), (5, .int (x5 + 1)), (6, .int (x6 + 1))]) 6 K.1 dX7_firstFault_106 rfl rfl (by decide) rfl ?_
          refine V_goto (tgt := 59) K.1 dX7_firstFault_109 (by decide) ?_
          exact (k6 c62 c69 c85 c97)
        · refine V_iconst (v := 0) K.1 dX7_firstFault_100 (by decide) ?_
          refine V_istore (L' := [(0, .ref (ω.2.2.1 (2 + j))), (1, .int x1), (2, .int x2), (3, .int x3), (4, .int x4), (5, .int (0 : Int32)), (6, .int x6)]) K.1 dX7_firstFault_101 (by decide) rfl ?_
          refine V_iinc (v := (x4 + 1)) (L' := [(0, .ref (ω.2.2.1 (2 + j))), (1, .int x1), (2, .int x2), (3, .int x3), (4, .int (x4 + 1)), (5, .int (0 : Int32)), (6, .int x6)]) 4 K.1 dX7_firstFault_103 rfl rfl (by decide) rfl ?_
          refine V_iinc (v := (x6 + 1)) (L' := [(0, .ref (ω.2.2.1 (2 + j))), (1, .int x1), (2, .int x2), (3, .int x3), (4, .int (x4 + 1)), (5, .int (0 : Int32)), (6, .int (x6 + 1))]) 6 K.1 dX7_firstFault_106 rfl rfl (by decide) rfl ?_
          refine V_goto (tgt := 59) K.1 dX7_firstFault_109 (by decide) ?_
          exact (k7 c62 c69 c85 c97)
      · refine V_iload 6 K.1 dX7_firstFault_88 rfl ?_
        exact V_iret K dX7_firstFault_90 (k8 c62 c69 c85)
set_option maxRecDepth 20000 in
theorem R_X8_town_0 {ω : WT} {κ : KT} {l : Launch} {d : Nat} {post : Option Value → St → Prop} {σ : St} {x1 x2 x3 x4 : Int32}  (K : Cm ω κ l yX8_town cX8_town 7 d (some .int) post)
    (k1 : V ω κ 6 [(0, .ref (ω.2.2.1 0)), (1, .int x1), (3, .int x3), (4, .int x4)] [.int x4, .int x3, .int x2, .int x1, .ref (ω.2.2.1 0)] σ) :
    V ω κ 0 [(0, .ref (ω.2.2.1 0)), (1, .int x1), (2, .int x2), (3, .int x3), (4, .int x4)] [] σ := by
  refine V_aload_n 0 K.1 dX8_town_0 rfl rfl ?_
  refine V_iload_n 1 K.1 dX8_town_1 rfl rfl ?_
  refine V_iload_n 2 K.1 dX8_town_2 rfl rfl ?_
  refine V_iload_n 3 K.1 dX8_town_3 rfl rfl ?_
  refine V_iload 4 K.1 dX8_town_4 rfl ?_
  exact V_sub [0, 1, 3, 4] rfl k1
set_option maxRecDepth 20000 in
theorem R_X8_town_9 {ω : WT} {κ : KT} {l : Launch} {d : Nat} {post : Option Value → St → Prop} {σ : St} {x1 x3 x4 s0 : Int32}  (K : Cm ω κ l yX8_town cX8_town 7 d (some .int) post)
    (k1 : (s0 = 0) → V ω κ 24 [(0, .ref (ω.2.2.1 0)), (1, .int x1), (3, .int x3), (4, .int x4)] [.int x1, .ref (ω.2.2.1 1)] σ)
    (k2 : ¬ (s0 = 0) → post (some (.int s0)) σ) :
    V ω κ 9 [(0, .ref (ω.2.2.1 0)), (1, .int x1), (3, .int x3), (4, .int x4)] [.int s0] σ := by
  refine V_istore (L' := [(0, .ref (ω.2.2.1 0)), (1, .int x1), (3, .int x3), (4, .int x4), (5, .int s0)]) K.1 dX8_town_9 (by decide) rfl ?_
  refine V_iload 4 K.1 dX8_town_11 rfl ?_
  refine V_if_eq (tgt := 19) K.1 dX8_town_13 (by decide) (fun c13 => ?_) (fun c13 => ?_)
  · refine V_aload_n 0 K.1 dX8_town_19 rfl rfl ?_
    refine V_get (v := .ref (ω.2.2.1 1)) K.1 dX8_town_20 rfl rfl fw_X8_13 rfl rfl ?_
    refine V_iload_n 1 K.1 dX8_town_23 rfl rfl ?_
    exact V_sub [0, 1, 2, 3] rfl (k1 c13)
  · refine V_iload 4 K.1 dX8_town_16 rfl ?_
    exact V_iret K dX8_town_18 (k2 c13)
set_option maxRecDepth 20000 in
theorem R_X8_town_25 {ω : WT} {κ : KT} {l : Launch} {d : Nat} {post : Option Value → St → Prop} {σ : St} {x1 x3 x4 : Int32} {j : Nat} (hj : j < 4) (K : Cm ω κ l yX8_town cX8_town 7 d (some .int) post)
    (k1 : V ω κ 28 [(0, .ref (ω.2.2.1 0)), (1, .int x1), (3, .int x3), (4, .int x4)] [.int x4, .int x3, .ref (ω.2.2.1 (2 + j))] σ) :
    V ω κ 25 [(0, .ref (ω.2.2.1 0)), (1, .int x1), (3, .int x3), (4, .int x4)] [.ref (ω.2.2.1 (2 + j))] σ := by
  refine V_iload_n 2 K.1 dX8_town_25 rfl rfl ?_
  refine V_iload 3 K.1 dX8_town_26 rfl ?_
  exact k1
set_option maxRecDepth 20000 in
theorem R_X8_town_31 {ω : WT} {κ : KT} {l : Launch} {d : Nat} {post : Option Value → St → Prop} {σ : St} {x1 x3 x4 s0 : Int32}  (K : Cm ω κ l yX8_town cX8_town 7 d (some .int) post)
    (k1 : (s0 < 0) → V ω κ 53 [(0, .ref (ω.2.2.1 0)), (3, .int x3), (4, .int x4)] [.int x1, .ref (ω.2.2.1 1), .ref (ω.2.2.1 10)] σ)
    (k2 : ¬ (s0 < 0) → post (some (.int ((-100 : Int32) - s0))) σ) :
    V ω κ 31 [(0, .ref (ω.2.2.1 0)), (1, .int x1), (3, .int x3), (4, .int x4)] [.int s0] σ := by
  refine V_istore (L' := [(0, .ref (ω.2.2.1 0)), (1, .int x1), (3, .int x3), (4, .int x4), (6, .int s0)]) K.1 dX8_town_31 (by decide) rfl ?_
  refine V_iload 4 K.1 dX8_town_33 rfl ?_
  refine V_if_lt (tgt := 44) K.1 dX8_town_35 (by decide) (fun c35 => ?_) (fun c35 => ?_)
  · refine V_aload_n 0 K.1 dX8_town_44 rfl rfl ?_
    refine V_get (v := .ref (ω.2.2.1 10)) K.1 dX8_town_45 rfl rfl fw_X8_21 rfl rfl ?_
    refine V_aload_n 0 K.1 dX8_town_48 rfl rfl ?_
    refine V_get (v := .ref (ω.2.2.1 1)) K.1 dX8_town_49 rfl rfl fw_X8_13 rfl rfl ?_
    refine V_iload_n 1 K.1 dX8_town_52 rfl rfl ?_
    exact V_sub [0, 2, 3] rfl (k1 c35)
  · refine V_bipush (v := -100) K.1 dX8_town_38 (by decide) ?_
    refine V_iload 4 K.1 dX8_town_40 rfl ?_
    refine V_isub K.1 dX8_town_42 ?_
    exact V_iret K dX8_town_43 (k2 c35)
set_option maxRecDepth 20000 in
theorem R_X8_town_54 {ω : WT} {κ : KT} {l : Launch} {d : Nat} {post : Option Value → St → Prop} {σ : St} {x3 x4 : Int32} {j : Nat} (hj : j < 4) (K : Cm ω κ l yX8_town cX8_town 7 d (some .int) post)
    (k1 : V ω κ 57 [(0, .ref (ω.2.2.1 0))] [.int x4, .int x3, .ref (ω.2.2.1 (2 + j)), .ref (ω.2.2.1 10)] σ) :
    V ω κ 54 [(0, .ref (ω.2.2.1 0)), (3, .int x3), (4, .int x4)] [.ref (ω.2.2.1 (2 + j)), .ref (ω.2.2.1 10)] σ := by
  refine V_iload_n 1 K.1 dX8_town_54 rfl rfl ?_
  refine V_iload 2 K.1 dX8_town_55 rfl ?_
  exact V_sub [0] rfl k1
set_option maxRecDepth 20000 in
theorem R_X8_town_60 {ω : WT} {κ : KT} {l : Launch} {d : Nat} {post : Option Value → St → Prop} {σ : St}  (K : Cm ω κ l yX8_town cX8_town 7 d (some .int) post)
    (k1 : post (some (.int (σ.1 640))) σ) :
    V ω κ 60 [(0, .ref (ω.2.2.1 0))] [] σ := by
  refine V_aload_n 0 K.1 dX8_town_60 rfl rfl ?_
  refine V_get (v := .ref (ω.2.2.1 10)) K.1 dX8_town_61 rfl rfl fw_X8_21 rfl rfl ?_
  refine V_get (v := .int (σ.1 640)) K.1 dX8_town_64 rfl rfl fw_X8_85 rfl rfl ?_
  exact V_iret K dX8_town_67 k1
set_option maxRecDepth 20000 in
theorem C_X8_town_6 {ω : WT} {κ : KT} {l : Launch} {d : Nat} {post : Option Value → St → Prop} {σ : St} {x1 x3 x4 s1 s2 s3 s4 : Int32}  {post' : Option Value → St → Prop} (K : Cm ω κ l yX8_town cX8_town 7 d (some .int) post) (hdp : 1 ≤ d) (hM : Sp ω l yX8_whyNotTaken cX8_whyNotTaken 6 (some .int) (d - 1) [.ref (ω.2.2.1 0), .int s1, .int s2, .int s3, .int s4] σ post')
    (kk : ∀ (v : Option Value) (σ' : St), post' v σ' → V ω κ 9 [(0, .ref (ω.2.2.1 0)), (1, .int x1), (3, .int x3), (4, .int x4)] (v.toList ++ []) σ') : V ω κ 6 [(0, .ref (ω.2.2.1 0)), (1, .int x1), (3, .int x3), (4, .int x4)] [.int s4, .int s3, .int s2, .int s1, .ref (ω.2.2.1 0)] σ := by
  exact V_callV (d' := d - 1) (As := [.int s1, .int s2, .int s3, .int s4]) (rest := []) K.1 dX8_town_6 cw_X8_73 rfl rfl rfl (by omega) rfl (by simp [Value.category]) hM (fun v σ' h => kk v σ' h)
set_option maxRecDepth 20000 in
theorem C_X8_town_28 {ω : WT} {κ : KT} {l : Launch} {d : Nat} {post : Option Value → St → Prop} {σ : St} {x1 x3 x4 s1 s2 : Int32} {j : Nat} (hj : j < 4) {post' : Option Value → St → Prop} (K : Cm ω κ l yX8_town cX8_town 7 d (some .int) post) (hdp : 1 ≤ d) (hM : Sp ω l yX7_firstFault cX7_firstFault 7 (some .int) (d - 1) [.ref (ω.2.2.1 (2 + j)), .int s1, .int s2] σ post')
    (kk : ∀ (v : Option Value) (σ' : St), post' v σ' → V ω κ 31 [(0, .ref (ω.2.2.1 0)), (1, .int x1), (3, .int x3), (4, .int x4)] (v.toList ++ []) σ') : V ω κ 28 [(0, .ref (ω.2.2.1 0)), (1, .int x1), (3, .int x3), (4, .int x4)] [.int s2, .int s1, .ref (ω.2.2.1 (2 + j))] σ := by
  exact V_callS (d' := d - 1) (As := [.ref (ω.2.2.1 (2 + j)), .int s1, .int s2]) (rest := []) K.1 dX8_town_28 cw_X8_77 rfl (by omega) rfl (by simp [Value.category]) hM (fun v σ' h => kk v σ' h)
set_option maxRecDepth 20000 in
theorem C_X8_town_57 {ω : WT} {κ : KT} {l : Launch} {d : Nat} {post : Option Value → St → Prop} {σ : St} {s2 s3 : Int32} {j : Nat} (hj : j < 4) {post' : Option Value → St → Prop} (K : Cm ω κ l yX8_town cX8_town 7 d (some .int) post) (hdp : 1 ≤ d) (hM : Sp ω l yX7_found cX7_found 6 none (d - 1) [.ref (ω.2.2.1 10), .ref (ω.2.2.1 (2 + j)), .int s2, .int s3] σ post')
    (kk : ∀ (v : Option Value) (σ' : St), post' v σ' → V ω κ 60 [(0, .ref (ω.2.2.1 0))] (v.toList ++ []) σ') : V ω κ 57 [(0, .ref (ω.2.2.1 0))] [.int s3, .int s2, .ref (ω.2.2.1 (2 + j)), .ref (ω.2.2.1 10)] σ := by
  exact V_callV (d' := d - 1) (As := [.ref (ω.2.2.1 (2 + j)), .int s2, .int s3]) (rest := []) K.1 dX8_town_57 cw_X8_81 rfl rfl rfl (by omega) rfl (by simp [Value.category]) hM (fun v σ' h => kk v σ' h)
theorem A_X8_town_24 {ω : WT} {κ : KT} {l : Launch} {d : Nat} {post : Option Value → St → Prop} {σ : St} {x1 x3 x4 : Int32}  {j : Nat} (hj : j < 4) (K : Cm ω κ l yX8_town cX8_town 7 d (some .int) post)
    (kk : V ω κ 25 [(0, .ref (ω.2.2.1 0)), (1, .int x1), (3, .int x3), (4, .int x4)] [.ref (ω.2.2.1 (2 + j))] σ) : V ω κ 24 [(0, .ref (ω.2.2.1 0)), (1, .int x1), (3, .int x3), (4, .int x4)] [.int (nI j), .ref (ω.2.2.1 1)] σ := by
  refine V_aaload K.1 dX8_town_24 rfl (vp_in_nI hj (by omega)) ?_
  rw [nI_clamp (by omega)]
  exact kk
theorem A_X8_town_53 {ω : WT} {κ : KT} {l : Launch} {d : Nat} {post : Option Value → St → Prop} {σ : St} {x3 x4 : Int32}  {j : Nat} (hj : j < 4) (K : Cm ω κ l yX8_town cX8_town 7 d (some .int) post)
    (kk : V ω κ 54 [(0, .ref (ω.2.2.1 0)), (3, .int x3), (4, .int x4)] [.ref (ω.2.2.1 (2 + j)), .ref (ω.2.2.1 10)] σ) : V ω κ 53 [(0, .ref (ω.2.2.1 0)), (3, .int x3), (4, .int x4)] [.int (nI j), .ref (ω.2.2.1 1), .ref (ω.2.2.1 10)] σ := by
  refine V_aaload K.1 dX8_town_53 rfl (vp_in_nI hj (by omega)) ?_
  rw [nI_clamp (by omega)]
  exact kk
set_option maxRecDepth 20000 in
theorem R_X9_readOne_0 {ω : WT} {κ : KT} {l : Launch} {d : Nat} {post : Option Value → St → Prop} {σ : St} {x1 : Int32}  (K : Cm ω κ l yX9_readOne cX9_readOne 4 d (some .boolean) post) (hdp : 1 ≤ d)
    (p1 : ¬ (x1 ≤ (σ.1 2253)) → vp_in (σ.1 2253) 320)
    (p2 : ((if (x1 ≤ (σ.1 2253)) then (0 : Int32) else (if ((σ.2.1 38 ((σ.1 2253)).toNatClampNeg) = (104 : Int32)) then (1 : Int32) else (0 : Int32))) = 0) → ¬ (x1 ≤ (σ.1 2253)) → vp_in (σ.1 2253) 320)
    (p3 : ((if (x1 ≤ (σ.1 2253)) then (0 : Int32) else (if ((σ.2.1 38 ((σ.1 2253)).toNatClampNeg) = (104 : Int32)) then (1 : Int32) else (0 : Int32))) = 0) → ((if (x1 ≤ (σ.1 2253)) then (0 : Int32) else (if ((σ.2.1 38 ((σ.1 2253)).toNatClampNeg) = (102 : Int32)) then (1 : Int32) else (0 : Int32))) = 0) → ¬ (x1 ≤ (σ.1 2253)) → vp_in (σ.1 2253) 320)
    (k4 : ((if (x1 ≤ (σ.1 2253)) then (0 : Int32) else (if ((σ.2.1 38 ((σ.1 2253)).toNatClampNeg) = (104 : Int32)) then (1 : Int32) else (0 : Int32))) = 0) → ((if (x1 ≤ (σ.1 2253)) then (0 : Int32) else (if ((σ.2.1 38 ((σ.1 2253)).toNatClampNeg) = (102 : Int32)) then (1 : Int32) else (0 : Int32))) = 0) → ((if (x1 ≤ (σ.1 2253)) then (0 : Int32) else (if ((σ.2.1 38 ((σ.1 2253)).toNatClampNeg) = (99 : Int32)) then (1 : Int32) else (0 : Int32))) = 0) → post (some (.int (0 : Int32))) σ)
    (b5 : ((if (x1 ≤ (σ.1 2253)) then (0 : Int32) else (if ((σ.2.1 38 ((σ.1 2253)).toNatClampNeg) = (104 : Int32)) then (1 : Int32) else (0 : Int32))) = 0) → ((if (x1 ≤ (σ.1 2253)) then (0 : Int32) else (if ((σ.2.1 38 ((σ.1 2253)).toNatClampNeg) = (102 : Int32)) then (1 : Int32) else (0 : Int32))) = 0) → ¬ ((if (x1 ≤ (σ.1 2253)) then (0 : Int32) else (if ((σ.2.1 38 ((σ.1 2253)).toNatClampNeg) = (99 : Int32)) then (1 : Int32) else (0 : Int32))) = 0) → vp_in (σ.1 2254) 8)
    (k6 : ((if (x1 ≤ (σ.1 2253)) then (0 : Int32) else (if ((σ.2.1 38 ((σ.1 2253)).toNatClampNeg) = (104 : Int32)) then (1 : Int32) else (0 : Int32))) = 0) → ((if (x1 ≤ (σ.1 2253)) then (0 : Int32) else (if ((σ.2.1 38 ((σ.1 2253)).toNatClampNeg) = (102 : Int32)) then (1 : Int32) else (0 : Int32))) = 0) → ¬ ((if (x1 ≤ (σ.1 2253)) then (0 : Int32) else (if ((σ.2.1 38 ((σ.1 2253)).toNatClampNeg) = (99 : Int32)) then (1 : Int32) else (0 : Int32))) = 0) → V ω κ 85 [(0, .ref (ω.2.2.1 35)), (1, .int x1), (2, .int (0 : Int32)), (3, .int (0 : Int32))] [] (pS (pA σ 42 ((σ.1 2254)).toNatClampNeg (2 : Int32)) 2253 ((σ.1 2253) + (1 : Int32))))
    (b7 : ((if (x1 ≤ (σ.1 2253)) then (0 : Int32) else (if ((σ.2.1 38 ((σ.1 2253)).toNatClampNeg) = (104 : Int32)) then (1 : Int32) else (0 : Int32))) = 0) → ¬ ((if (x1 ≤ (σ.1 2253)) then (0 : Int32) else (if ((σ.2.1 38 ((σ.1 2253)).toNatClampNeg) = (102 : Int32)) then (1 : Int32) else (0 : Int32))) = 0) → vp_in (σ.1 2254) 8)
    (k8 : ((if (x1 ≤ (σ.1 2253)) then (0 : Int32) else (if ((σ.2.1 38 ((σ.1 2253)).toNatClampNeg) = (104 : Int32)) then (1 : Int32) else (0 : Int32))) = 0) → ¬ ((if (x1 ≤ (σ.1 2253)) then (0 : Int32) else (if ((σ.2.1 38 ((σ.1 2253)).toNatClampNeg) = (102 : Int32)) then (1 : Int32) else (0 : Int32))) = 0) → V ω κ 85 [(0, .ref (ω.2.2.1 35)), (1, .int x1), (2, .int (0 : Int32)), (3, .int (0 : Int32))] [] (pS (pA σ 42 ((σ.1 2254)).toNatClampNeg (1 : Int32)) 2253 ((σ.1 2253) + (1 : Int32))))
    (b9 : ¬ ((if (x1 ≤ (σ.1 2253)) then (0 : Int32) else (if ((σ.2.1 38 ((σ.1 2253)).toNatClampNeg) = (104 : Int32)) then (1 : Int32) else (0 : Int32))) = 0) → vp_in (σ.1 2254) 8)
    (k10 : ¬ ((if (x1 ≤ (σ.1 2253)) then (0 : Int32) else (if ((σ.2.1 38 ((σ.1 2253)).toNatClampNeg) = (104 : Int32)) then (1 : Int32) else (0 : Int32))) = 0) → V ω κ 85 [(0, .ref (ω.2.2.1 35)), (1, .int x1), (2, .int (0 : Int32)), (3, .int (0 : Int32))] [] (pS (pA σ 42 ((σ.1 2254)).toNatClampNeg (0 : Int32)) 2253 ((σ.1 2253) + (1 : Int32)))) :
    V ω κ 0 [(0, .ref (ω.2.2.1 35)), (1, .int x1)] [] σ := by
  refine V_aload_n 0 K.1 dX9_readOne_0 rfl rfl ?_
  refine V_bipush (v := 104) K.1 dX9_readOne_1 (by decide) ?_
  refine V_iload_n 1 K.1 dX9_readOne_3 rfl rfl ?_
  refine V_callV (d' := d - 1) (As := [.int (104 : Int32), .int x1]) K.1 dX9_readOne_4 cw_X9_133 rfl rfl rfl (by omega) rfl (by simp [Value.category]) (m_X9_isCode K.1.wf (by omega) p1) (go_I ?_)
  refine V_if_eq (tgt := 23) K.1 dX9_readOne_7 (by decide) (fun c7 => ?_) (fun c7 => ?_)
  · refine V_aload_n 0 K.1 dX9_readOne_23 rfl rfl ?_
    refine V_bipush (v := 102) K.1 dX9_readOne_24 (by decide) ?_
    refine V_iload_n 1 K.1 dX9_readOne_26 rfl rfl ?_
    refine V_callV (d' := d - 1) (As := [.int (102 : Int32), .int x1]) K.1 dX9_readOne_27 cw_X9_133 rfl rfl rfl (by omega) rfl (by simp [Value.category]) (m_X9_isCode K.1.wf (by omega) (p2 c7)) (go_I ?_)
    refine V_if_eq (tgt := 46) K.1 dX9_readOne_30 (by decide) (fun c30 => ?_) (fun c30 => ?_)
    · refine V_aload_n 0 K.1 dX9_readOne_46 rfl rfl ?_
      refine V_bipush (v := 99) K.1 dX9_readOne_47 (by decide) ?_
      refine V_iload_n 1 K.1 dX9_readOne_49 rfl rfl ?_
      refine V_callV (d' := d - 1) (As := [.int (99 : Int32), .int x1]) K.1 dX9_readOne_50 cw_X9_133 rfl rfl rfl (by omega) rfl (by simp [Value.category]) (m_X9_isCode K.1.wf (by omega) (p3 c7 c30)) (go_I ?_)
      refine V_if_eq (tgt := 69) K.1 dX9_readOne_53 (by decide) (fun c53 => ?_) (fun c53 => ?_)
      · refine V_iconst (v := 0) K.1 dX9_readOne_69 (by decide) ?_
        exact V_zret K dX9_readOne_70 (Or.inl rfl) (k4 c7 c30 c53)
      · refine V_aload_n 0 K.1 dX9_readOne_56 rfl rfl ?_
        refine V_get (v := .ref (ω.2.2.1 42)) K.1 dX9_readOne_57 rfl rfl fw_X9_28 rfl rfl ?_
        refine V_aload_n 0 K.1 dX9_readOne_60 rfl rfl ?_
        refine V_get (v := .int (σ.1 2254)) K.1 dX9_readOne_61 rfl rfl fw_X9_118 rfl rfl ?_
        refine V_iconst (v := 2) K.1 dX9_readOne_64 (by decide) ?_
        refine V_iastore K.1 dX9_readOne_65 rfl (b5 c7 c30 c53) ?_
        refine V_goto (tgt := 71) K.1 dX9_readOne_66 (by decide) ?_
        refine V_aload_n 0 K.1 dX9_readOne_71 rfl rfl ?_
        refine V_dup K.1 dX9_readOne_72 rfl ?_
        refine V_get (v := .int (σ.1 2253)) K.1 dX9_readOne_73 rfl rfl fw_X9_97 rfl rfl ?_
        refine V_iconst (v := 1) K.1 dX9_readOne_76 (by decide) ?_
        refine V_iadd K.1 dX9_readOne_77 ?_
        refine V_putI (key := 2253) K.1 dX9_readOne_78 rfl rfl fw_X9_97 pw_X9_13 rfl rfl rfl rfl ?_
        refine V_iconst (v := 0) K.1 dX9_readOne_81 (by decide) ?_
        refine V_istore_n (L' := [(0, .ref (ω.2.2.1 35)), (1, .int x1), (2, .int (0 : Int32))]) K.1 dX9_readOne_82 rfl (by decide) rfl ?_
        refine V_iconst (v := 0) K.1 dX9_readOne_83 (by decide) ?_
        refine V_istore_n (L' := [(0, .ref (ω.2.2.1 35)), (1, .int x1), (2, .int (0 : Int32)), (3, .int (0 : Int32))]) K.1 dX9_readOne_84 rfl (by decide) rfl ?_
        exact (k6 c7 c30 c53)
    · refine V_aload_n 0 K.1 dX9_readOne_33 rfl rfl ?_
      refine V_get (v := .ref (ω.2.2.1 42)) K.1 dX9_readOne_34 rfl rfl fw_X9_28 rfl rfl ?_
      refine V_aload_n 0 K.1 dX9_readOne_37 rfl rfl ?_
      refine V_get (v := .int (σ.1 2254)) K.1 dX9_readOne_38 rfl rfl fw_X9_118 rfl rfl ?_
      refine V_iconst (v := 1) K.1 dX9_readOne_41 (by decide) ?_
      refine V_iastore K.1 dX9_readOne_42 rfl (b7 c7 c30) ?_
      refine V_goto (tgt := 71) K.1 dX9_readOne_43 (by decide) ?_
      refine V_aload_n 0 K.1 dX9_readOne_71 rfl rfl ?_
      refine V_dup K.1 dX9_readOne_72 rfl ?_
      refine V_get (v := .int (σ.1 2253)) K.1 dX9_readOne_73 rfl rfl fw_X9_97 rfl rfl ?_
      refine V_iconst (v := 1) K.1 dX9_readOne_76 (by decide) ?_
      refine V_iadd K.1 dX9_readOne_77 ?_
      refine V_putI (key := 2253) K.1 dX9_readOne_78 rfl rfl fw_X9_97 pw_X9_13 rfl rfl rfl rfl ?_
      refine V_iconst (v := 0) K.1 dX9_readOne_81 (by decide) ?_
      refine V_istore_n (L' := [(0, .ref (ω.2.2.1 35)), (1, .int x1), (2, .int (0 : Int32))]) K.1 dX9_readOne_82 rfl (by decide) rfl ?_
      refine V_iconst (v := 0) K.1 dX9_readOne_83 (by decide) ?_
      refine V_istore_n (L' := [(0, .ref (ω.2.2.1 35)), (1, .int x1), (2, .int (0 : Int32)), (3, .int (0 : Int32))]) K.1 dX9_readOne_84 rfl (by decide) rfl ?_
      exact (k8 c7 c30)
  · refine V_aload_n 0 K.1 dX9_readOne_10 rfl rfl ?_
    refine V_get (v := .ref (ω.2.2.1 42)) K.1 dX9_readOne_11 rfl rfl fw_X9_28 rfl rfl ?_
    refine V_aload_n 0 K.1 dX9_readOne_14 rfl rfl ?_
    refine V_get (v := .int (σ.1 2254)) K.1 dX9_readOne_15 rfl rfl fw_X9_118 rfl rfl ?_
    refine V_iconst (v := 0) K.1 dX9_readOne_18 (by decide) ?_
    refine V_iastore K.1 dX9_readOne_19 rfl (b9 c7) ?_
    refine V_goto (tgt := 71) K.1 dX9_readOne_20 (by decide) ?_
    refine V_aload_n 0 K.1 dX9_readOne_71 rfl rfl ?_
    refine V_dup K.1 dX9_readOne_72 rfl ?_
    refine V_get (v := .int (σ.1 2253)) K.1 dX9_readOne_73 rfl rfl fw_X9_97 rfl rfl ?_
    refine V_iconst (v := 1) K.1 dX9_readOne_76 (by decide) ?_
    refine V_iadd K.1 dX9_readOne_77 ?_
    refine V_putI (key := 2253) K.1 dX9_readOne_78 rfl rfl fw_X9_97 pw_X9_13 rfl rfl rfl rfl ?_
    refine V_iconst (v := 0) K.1 dX9_readOne_81 (by decide) ?_
    refine V_istore_n (L' := [(0, .ref (ω.2.2.1 35)), (1, .int x1), (2, .int (0 : Int32))]) K.1 dX9_readOne_82 rfl (by decide) rfl ?_
    refine V_iconst (v := 0) K.1 dX9_readOne_83 (by decide) ?_
    refine V_istore_n (L' := [(0, .ref (ω.2.2.1 35)), (1, .int x1), (2, .int (0 : Int32)), (3, .int (0 : Int32))]) K.1 dX9_readOne_84 rfl (by decide) rfl ?_
    exact (k10 c7)
set_option maxRecDepth 20000 in
theorem R_X9_readOne_85 {ω : WT} {κ : KT} {l : Launch} {d : Nat} {post : Option Value → St → Prop} {σ : St} {x1 x2 x3 : Int32}  (K : Cm ω κ l yX9_readOne cX9_readOne 4 d (some .boolean) post) (hdp : 1 ≤ d)
    (b1 : ((σ.1 2255) ≤ x3) → vp_in (σ.1 2254) 8)
    (k2 : ((σ.1 2255) ≤ x3) → post (some (.int (1 : Int32))) (pS (pA σ 43 ((σ.1 2254)).toNatClampNeg x2) 2254 ((σ.1 2254) + (1 : Int32))))
    (p3 : ¬ ((σ.1 2255) ≤ x3) → ¬ (x1 ≤ (σ.1 2253)) → vp_in (σ.1 2253) 320)
    (b4 : ¬ ((σ.1 2255) ≤ x3) → ¬ ((if (x1 ≤ (σ.1 2253)) then (0 : Int32) else (if ((σ.2.1 38 ((σ.1 2253)).toNatClampNeg) = (121 : Int32)) then (1 : Int32) else (0 : Int32))) = 0) → vp_in (σ.1 2253) 320)
    (k6 : ¬ ((σ.1 2255) ≤ x3) → ¬ ((if (x1 ≤ (σ.1 2253)) then (0 : Int32) else (if ((σ.2.1 38 ((σ.1 2253)).toNatClampNeg) = (121 : Int32)) then (1 : Int32) else (0 : Int32))) = 0) → V ω κ 85 [(0, .ref (ω.2.2.1 35)), (1, .int x1), (2, .int (x2 ||| (if ((σ.2.1 38 ((σ.1 2253)).toNatClampNeg) = (121 : Int32)) then ((1 : Int32) <<< (x3 &&& 31)) else (0 : Int32)))), (3, .int (x3 + 1))] [] (pS σ 2253 ((σ.1 2253) + (1 : Int32))))
    (p7 : ¬ ((σ.1 2255) ≤ x3) → ((if (x1 ≤ (σ.1 2253)) then (0 : Int32) else (if ((σ.2.1 38 ((σ.1 2253)).toNatClampNeg) = (121 : Int32)) then (1 : Int32) else (0 : Int32))) = 0) → ¬ (x1 ≤ (σ.1 2253)) → vp_in (σ.1 2253) 320)
    (b8 : ¬ ((σ.1 2255) ≤ x3) → ((if (x1 ≤ (σ.1 2253)) then (0 : Int32) else (if ((σ.2.1 38 ((σ.1 2253)).toNatClampNeg) = (121 : Int32)) then (1 : Int32) else (0 : Int32))) = 0) → ¬ ((if (x1 ≤ (σ.1 2253)) then (0 : Int32) else (if ((σ.2.1 38 ((σ.1 2253)).toNatClampNeg) = (110 : Int32)) then (1 : Int32) else (0 : Int32))) = 0) → vp_in (σ.1 2253) 320)
    (k10 : ¬ ((σ.1 2255) ≤ x3) → ((if (x1 ≤ (σ.1 2253)) then (0 : Int32) else (if ((σ.2.1 38 ((σ.1 2253)).toNatClampNeg) = (121 : Int32)) then (1 : Int32) else (0 : Int32))) = 0) → ¬ ((if (x1 ≤ (σ.1 2253)) then (0 : Int32) else (if ((σ.2.1 38 ((σ.1 2253)).toNatClampNeg) = (110 : Int32)) then (1 : Int32) else (0 : Int32))) = 0) → V ω κ 85 [(0, .ref (ω.2.2.1 35)), (1, .int x1), (2, .int (x2 ||| (if ((σ.2.1 38 ((σ.1 2253)).toNatClampNeg) = (121 : Int32)) then ((1 : Int32) <<< (x3 &&& 31)) else (0 : Int32)))), (3, .int (x3 + 1))] [] (pS σ 2253 ((σ.1 2253) + (1 : Int32))))
    (k11 : ¬ ((σ.1 2255) ≤ x3) → ((if (x1 ≤ (σ.1 2253)) then (0 : Int32) else (if ((σ.2.1 38 ((σ.1 2253)).toNatClampNeg) = (121 : Int32)) then (1 : Int32) else (0 : Int32))) = 0) → ((if (x1 ≤ (σ.1 2253)) then (0 : Int32) else (if ((σ.2.1 38 ((σ.1 2253)).toNatClampNeg) = (110 : Int32)) then (1 : Int32) else (0 : Int32))) = 0) → post (some (.int (0 : Int32))) σ) :
    V ω κ 85 [(0, .ref (ω.2.2.1 35)), (1, .int x1), (2, .int x2), (3, .int x3)] [] σ := by
  refine V_iload_n 3 K.1 dX9_readOne_85 rfl rfl ?_
  refine V_aload_n 0 K.1 dX9_readOne_86 rfl rfl ?_
  refine V_get (v := .int (σ.1 2255)) K.1 dX9_readOne_87 rfl rfl fw_X9_121 rfl rfl ?_
  refine V_icmp_ge (tgt := 155) K.1 dX9_readOne_90 (by decide) (fun c90 => ?_) (fun c90 => ?_)
  · refine V_aload_n 0 K.1 dX9_readOne_155 rfl rfl ?_
    refine V_get (v := .ref (ω.2.2.1 43)) K.1 dX9_readOne_156 rfl rfl fw_X9_31 rfl rfl ?_
    refine V_aload_n 0 K.1 dX9_readOne_159 rfl rfl ?_
    refine V_get (v := .int (σ.1 2254)) K.1 dX9_readOne_160 rfl rfl fw_X9_118 rfl rfl ?_
    refine V_iload_n 2 K.1 dX9_readOne_163 rfl rfl ?_
    refine V_iastore K.1 dX9_readOne_164 rfl (b1 c90) ?_
    refine V_aload_n 0 K.1 dX9_readOne_165 rfl rfl ?_
    refine V_dup K.1 dX9_readOne_166 rfl ?_
    refine V_get (v := .int (σ.1 2254)) K.1 dX9_readOne_167 rfl rfl fw_X9_118 rfl rfl ?_
    refine V_iconst (v := 1) K.1 dX9_readOne_170 (by decide) ?_
    refine V_iadd K.1 dX9_readOne_171 ?_
    refine V_putI (key := 2254) K.1 dX9_readOne_172 rfl rfl fw_X9_118 pw_X9_14 rfl rfl rfl rfl ?_
    refine V_iconst (v := 1) K.1 dX9_readOne_175 (by decide) ?_
    exact V_zret K dX9_readOne_176 (Or.inr rfl) (k2 c90)
  · refine V_aload_n 0 K.1 dX9_readOne_93 rfl rfl ?_
    refine V_bipush (v := 121) K.1 dX9_readOne_94 (by decide) ?_
    refine V_iload_n 1 K.1 dX9_readOne_96 rfl rfl ?_
    refine V_callV (d' := d - 1) (As := [.int (121 : Int32), .int x1]) K.1 dX9_readOne_97 cw_X9_133 rfl rfl rfl (by omega) rfl (by simp [Value.category]) (m_X9_isCode K.1.wf (by omega) (p3 c90)) (go_I ?_)
    refine V_if_ne (tgt := 115) K.1 dX9_readOne_100 (by decide) (fun c100 => ?_) (fun c100 => ?_)
    · refine V_iload_n 2 K.1 dX9_readOne_115 rfl rfl ?_
      refine V_aload_n 0 K.1 dX9_readOne_116 rfl rfl ?_
      refine V_get (v := .ref (ω.2.2.1 38)) K.1 dX9_readOne_117 rfl rfl fw_X9_16 rfl rfl ?_
      refine V_aload_n 0 K.1 dX9_readOne_120 rfl rfl ?_
      refine V_get (v := .int (σ.1 2253)) K.1 dX9_readOne_121 rfl rfl fw_X9_97 rfl rfl ?_
      refine V_iaload (v := (σ.2.1 38 ((σ.1 2253)).toNatClampNeg)) K.1 dX9_readOne_124 rfl (b4 c90 c100) rfl ?_
      refine V_bipush (v := 121) K.1 dX9_readOne_125 (by decide) ?_
      refine V_join (J := 137) (S := [.int x2]) (v := .int (if ((σ.2.1 38 ((σ.1 2253)).toNatClampNeg) = (121 : Int32)) then ((1 : Int32) <<< (x3 &&& 31)) else (0 : Int32))) (fun hJ5 => ?_) ?_
      · refine V_icmp_ne (tgt := 136) K.1 dX9_readOne_127 (by decide) (fun c127 => ?_) (fun c127 => ?_)
        · refine V_iconst (v := 0) K.1 dX9_readOne_136 (by decide) ?_
          exact V_top (if_neg c127) hJ5
        · refine V_iconst (v := 1) K.1 dX9_readOne_130 (by decide) ?_
          refine V_iload_n 3 K.1 dX9_readOne_131 rfl rfl ?_
          refine V_ishl K.1 dX9_readOne_132 ?_
          refine V_goto (tgt := 137) K.1 dX9_readOne_133 (by decide) ?_
          exact V_top (if_pos c127) hJ5
      refine V_ior K.1 dX9_readOne_137 ?_
      refine V_istore_n (L' := [(0, .ref (ω.2.2.1 35)), (1, .int x1), (2, .int (x2 ||| (if ((σ.2.1 38 ((σ.1 2253)).toNatClampNeg) = (121 : Int32)) then ((1 : Int32) <<< (x3 &&& 31)) else (0 : Int32)))), (3, .int x3)]) K.1 dX9_readOne_138 rfl (by decide) rfl ?_
      refine V_aload_n 0 K.1 dX9_readOne_139 rfl rfl ?_
      refine V_dup K.1 dX9_readOne_140 rfl ?_
      refine V_get (v := .int (σ.1 2253)) K.1 dX9_readOne_141 rfl rfl fw_X9_97 rfl rfl ?_
      refine V_iconst (v := 1) K.1 dX9_readOne_144 (by decide) ?_
      refine V_iadd K.1 dX9_readOne_145 ?_
      refine V_putI (key := 2253) K.1 dX9_readOne_146 rfl rfl fw_X9_97 pw_X9_13 rfl rfl rfl rfl ?_
      refine V_iinc (v := (x3 + 1)) (L' := [(0, .ref (ω.2.2.1 35)), (1, .int x1), (2, .int (x2 ||| (if ((σ.2.1 38 ((σ.1 2253)).toNatClampNeg) = (121 : Int32)) then ((1 : Int32) <<< (x3 &&& 31)) else (0 : Int32)))), (3, .int (x3 + 1))]) 3 K.1 dX9_readOne_149 rfl rfl (by decide) rfl ?_
      refine V_goto (tgt := 85) K.1 dX9_readOne_152 (by decide) ?_
      exact (k6 c90 c100)
    · refine V_aload_n 0 K.1 dX9_readOne_103 rfl rfl ?_
      refine V_bipush (v := 110) K.1 dX9_readOne_104 (by decide) ?_
      refine V_iload_n 1 K.1 dX9_readOne_106 rfl rfl ?_
      refine V_callV (d' := d - 1) (As := [.int (110 : Int32), .int x1]) K.1 dX9_readOne_107 cw_X9_133 rfl rfl rfl (by omega) rfl (by simp [Value.category]) (m_X9_isCode K.1.wf (by omega) (p7 c90 c100)) (go_I ?_)
      refine V_if_ne (tgt := 115) K.1 dX9_readOne_110 (by decide) (fun c110 => ?_) (fun c110 => ?_)
      · refine V_iload_n 2 K.1 dX9_readOne_115 rfl rfl ?_
        refine V_aload_n 0 K.1 dX9_readOne_116 rfl rfl ?_
        refine V_get (v := .ref (ω.2.2.1 38)) K.1 dX9_readOne_117 rfl rfl fw_X9_16 rfl rfl ?_
        refine V_aload_n 0 K.1 dX9_readOne_120 rfl rfl ?_
        refine V_get (v := .int (σ.1 2253)) K.1 dX9_readOne_121 rfl rfl fw_X9_97 rfl rfl ?_
        refine V_iaload (v := (σ.2.1 38 ((σ.1 2253)).toNatClampNeg)) K.1 dX9_readOne_124 rfl (b8 c90 c100 c110) rfl ?_
        refine V_bipush (v := 121) K.1 dX9_readOne_125 (by decide) ?_
        refine V_join (J := 137) (S := [.int x2]) (v := .int (if ((σ.2.1 38 ((σ.1 2253)).toNatClampNeg) = (121 : Int32)) then ((1 : Int32) <<< (x3 &&& 31)) else (0 : Int32))) (fun hJ9 => ?_) ?_
        · refine V_icmp_ne (tgt := 136) K.1 dX9_readOne_127 (by decide) (fun c127 => ?_) (fun c127 => ?_)
          · refine V_iconst (v := 0) K.1 dX9_readOne_136 (by decide) ?_
            exact V_top (if_neg c127) hJ9
          · refine V_iconst (v := 1) K.1 dX9_readOne_130 (by decide) ?_
            refine V_iload_n 3 K.1 dX9_readOne_131 rfl rfl ?_
            refine V_ishl K.1 dX9_readOne_132 ?_
            refine V_goto (tgt := 137) K.1 dX9_readOne_133 (by decide) ?_
            exact V_top (if_pos c127) hJ9
        refine V_ior K.1 dX9_readOne_137 ?_
        refine V_istore_n (L' := [(0, .ref (ω.2.2.1 35)), (1, .int x1), (2, .int (x2 ||| (if ((σ.2.1 38 ((σ.1 2253)).toNatClampNeg) = (121 : Int32)) then ((1 : Int32) <<< (x3 &&& 31)) else (0 : Int32)))), (3, .int x3)]) K.1 dX9_readOne_138 rfl (by decide) rfl ?_
        refine V_aload_n 0 K.1 dX9_readOne_139 rfl rfl ?_
        refine V_dup K.1 dX9_readOne_140 rfl ?_
        refine V_get (v := .int (σ.1 2253)) K.1 dX9_readOne_141 rfl rfl fw_X9_97 rfl rfl ?_
        refine V_iconst (v := 1) K.1 dX9_readOne_144 (by decide) ?_
        refine V_iadd K.1 dX9_readOne_145 ?_
        refine V_putI (key := 2253) K.1 dX9_readOne_146 rfl rfl fw_X9_97 pw_X9_13 rfl rfl rfl rfl ?_
        refine V_iinc (v := (x3 + 1)) (L' := [(0, .ref (ω.2.2.1 35)), (1, .int x1), (2, .int (x2 ||| (if ((σ.2.1 38 ((σ.1 2253)).toNatClampNeg) = (121 : Int32)) then ((1 : Int32) <<< (x3 &&& 31)) else (0 : Int32)))), (3, .int (x3 + 1))]) 3 K.1 dX9_readOne_149 rfl rfl (by decide) rfl ?_
        refine V_goto (tgt := 85) K.1 dX9_readOne_152 (by decide) ?_
        exact (k10 c90 c100 c110)
      · refine V_iconst (v := 0) K.1 dX9_readOne_113 (by decide) ?_
        exact V_zret K dX9_readOne_114 (Or.inl rfl) (k11 c90 c100 c110)
set_option maxRecDepth 20000 in
theorem R_X9_readTown_0 {ω : WT} {κ : KT} {l : Launch} {d : Nat} {post : Option Value → St → Prop} {σ : St} {x1 : Int32}  (K : Cm ω κ l yX9_readTown cX9_readTown 2 d (some .boolean) post) (hdp : 1 ≤ d)
    (p1 : ¬ (x1 ≤ (σ.1 2253)) → vp_in (σ.1 2253) 320)
    (k2 : ¬ ((if (x1 ≤ (σ.1 2253)) then (0 : Int32) else (if ((σ.2.1 38 ((σ.1 2253)).toNatClampNeg) = (109 : Int32)) then (1 : Int32) else (0 : Int32))) = 0) → (x1 ≤ ((σ.1 2253) + (1 : Int32))) → post (some (.int (0 : Int32))) (pS σ 2253 ((σ.1 2253) + (1 : Int32))))
    (b3 : ¬ ((if (x1 ≤ (σ.1 2253)) then (0 : Int32) else (if ((σ.2.1 38 ((σ.1 2253)).toNatClampNeg) = (109 : Int32)) then (1 : Int32) else (0 : Int32))) = 0) → ¬ (x1 ≤ ((σ.1 2253) + (1 : Int32))) → vp_in ((σ.1 2253) + (1 : Int32)) 320)
    (b4 : ¬ ((if (x1 ≤ (σ.1 2253)) then (0 : Int32) else (if ((σ.2.1 38 ((σ.1 2253)).toNatClampNeg) = (109 : Int32)) then (1 : Int32) else (0 : Int32))) = 0) → ¬ (x1 ≤ ((σ.1 2253) + (1 : Int32))) → ¬ ((if ((σ.2.1 38 (((σ.1 2253) + (1 : Int32))).toNatClampNeg) < (49 : Int32)) then (0 : Int32) else (if ((54 : Int32) < (σ.2.1 38 (((σ.1 2253) + (1 : Int32))).toNatClampNeg)) then (0 : Int32) else (1 : Int32))) = 0) → vp_in ((σ.1 2253) + (1 : Int32)) 320)
    (k5 : ¬ ((if (x1 ≤ (σ.1 2253)) then (0 : Int32) else (if ((σ.2.1 38 ((σ.1 2253)).toNatClampNeg) = (109 : Int32)) then (1 : Int32) else (0 : Int32))) = 0) → ¬ (x1 ≤ ((σ.1 2253) + (1 : Int32))) → ¬ ((if ((σ.2.1 38 (((σ.1 2253) + (1 : Int32))).toNatClampNeg) < (49 : Int32)) then (0 : Int32) else (if ((54 : Int32) < (σ.2.1 38 (((σ.1 2253) + (1 : Int32))).toNatClampNeg)) then (0 : Int32) else (1 : Int32))) = 0) → V ω κ 82 [(0, .ref (ω.2.2.1 35)), (1, .int x1)] [] (pS (pS (pS (pS σ 2253 ((σ.1 2253) + (1 : Int32))) 2255 ((σ.2.1 38 (((σ.1 2253) + (1 : Int32))).toNatClampNeg) - (48 : Int32))) 2253 (((σ.1 2253) + (1 : Int32)) + (1 : Int32))) 2254 (0 : Int32)))
    (k6 : ¬ ((if (x1 ≤ (σ.1 2253)) then (0 : Int32) else (if ((σ.2.1 38 ((σ.1 2253)).toNatClampNeg) = (109 : Int32)) then (1 : Int32) else (0 : Int32))) = 0) → ¬ (x1 ≤ ((σ.1 2253) + (1 : Int32))) → ((if ((σ.2.1 38 (((σ.1 2253) + (1 : Int32))).toNatClampNeg) < (49 : Int32)) then (0 : Int32) else (if ((54 : Int32) < (σ.2.1 38 (((σ.1 2253) + (1 : Int32))).toNatClampNeg)) then (0 : Int32) else (1 : Int32))) = 0) → post (some (.int (0 : Int32))) (pS σ 2253 ((σ.1 2253) + (1 : Int32))))
    (k7 : ((if (x1 ≤ (σ.1 2253)) then (0 : Int32) else (if ((σ.2.1 38 ((σ.1 2253)).toNatClampNeg) = (109 : Int32)) then (1 : Int32) else (0 : Int32))) = 0) → post (some (.int (0 : Int32))) σ) :
    V ω κ 0 [(0, .ref (ω.2.2.1 35)), (1, .int x1)] [] σ := by
  refine V_aload_n 0 K.1 dX9_readTown_0 rfl rfl ?_
  refine V_bipush (v := 109) K.1 dX9_readTown_1 (by decide) ?_
  refine V_iload_n 1 K.1 dX9_readTown_3 rfl rfl ?_
  refine V_callV (d' := d - 1) (As := [.int (109 : Int32), .int x1]) K.1 dX9_readTown_4 cw_X9_133 rfl rfl rfl (by omega) rfl (by simp [Value.category]) (m_X9_isCode K.1.wf (by omega) p1) (go_I ?_)
  refine V_if_ne (tgt := 12) K.1 dX9_readTown_7 (by decide) (fun c7 => ?_) (fun c7 => ?_)
  · refine V_aload_n 0 K.1 dX9_readTown_12 rfl rfl ?_
    refine V_dup K.1 dX9_readTown_13 rfl ?_
    refine V_get (v := .int (σ.1 2253)) K.1 dX9_readTown_14 rfl rfl fw_X9_97 rfl rfl ?_
    refine V_iconst (v := 1) K.1 dX9_readTown_17 (by decide) ?_
    refine V_iadd K.1 dX9_readTown_18 ?_
    refine V_putI (key := 2253) K.1 dX9_readTown_19 rfl rfl fw_X9_97 pw_X9_13 rfl rfl rfl rfl ?_
    refine V_aload_n 0 K.1 dX9_readTown_22 rfl rfl ?_
    refine V_get (v := .int ((σ.1 2253) + (1 : Int32))) K.1 dX9_readTown_23 rfl rfl fw_X9_97 rfl rfl ?_
    refine V_iload_n 1 K.1 dX9_readTown_26 rfl rfl ?_
    refine V_icmp_ge (tgt := 49) K.1 dX9_readTown_27 (by decide) (fun c27 => ?_) (fun c27 => ?_)
    · refine V_iconst (v := 0) K.1 dX9_readTown_49 (by decide) ?_
      exact V_zret K dX9_readTown_50 (Or.inl rfl) (k2 c7 c27)
    · refine V_aload_n 0 K.1 dX9_readTown_30 rfl rfl ?_
      refine V_get (v := .ref (ω.2.2.1 38)) K.1 dX9_readTown_31 rfl rfl fw_X9_16 rfl rfl ?_
      refine V_aload_n 0 K.1 dX9_readTown_34 rfl rfl ?_
      refine V_get (v := .int ((σ.1 2253) + (1 : Int32))) K.1 dX9_readTown_35 rfl rfl fw_X9_97 rfl rfl ?_
      refine V_iaload (v := (σ.2.1 38 (((σ.1 2253) + (1 : Int32))).toNatClampNeg)) K.1 dX9_readTown_38 rfl (b3 c7 c27) rfl ?_
      refine V_bipush (v := 49) K.1 dX9_readTown_39 (by decide) ?_
      refine V_bipush (v := 54) K.1 dX9_readTown_41 (by decide) ?_
      refine V_callS (d' := d - 1) (As := [.int (σ.2.1 38 (((σ.1 2253) + (1 : Int32))).toNatClampNeg), .int (49 : Int32), .int (54 : Int32)]) K.1 dX9_readTown_43 cw_X9_87 rfl (by omega) rfl (by simp [Value.category]) (m_X9_within K.1.wf (by omega)) (go_I ?_)
      refine V_if_ne (tgt := 51) K.1 dX9_readTown_46 (by decide) (fun c46 => ?_) (fun c46 => ?_)
      · refine V_aload_n 0 K.1 dX9_readTown_51 rfl rfl ?_
        refine V_aload_n 0 K.1 dX9_readTown_52 rfl rfl ?_
        refine V_get (v := .ref (ω.2.2.1 38)) K.1 dX9_readTown_53 rfl rfl fw_X9_16 rfl rfl ?_
        refine V_aload_n 0 K.1 dX9_readTown_56 rfl rfl ?_
        refine V_get (v := .int ((σ.1 2253) + (1 : Int32))) K.1 dX9_readTown_57 rfl rfl fw_X9_97 rfl rfl ?_
        refine V_iaload (v := (σ.2.1 38 (((σ.1 2253) + (1 : Int32))).toNatClampNeg)) K.1 dX9_readTown_60 rfl (b4 c7 c27 c46) rfl ?_
        refine V_bipush (v := 48) K.1 dX9_readTown_61 (by decide) ?_
        refine V_isub K.1 dX9_readTown_63 ?_
        refine V_putI (key := 2255) K.1 dX9_readTown_64 rfl rfl fw_X9_121 pw_X9_15 rfl rfl rfl rfl ?_
        refine V_aload_n 0 K.1 dX9_readTown_67 rfl rfl ?_
        refine V_dup K.1 dX9_readTown_68 rfl ?_
        refine V_get (v := .int ((σ.1 2253) + (1 : Int32))) K.1 dX9_readTown_69 rfl rfl fw_X9_97 rfl rfl ?_
        refine V_iconst (v := 1) K.1 dX9_readTown_72 (by decide) ?_
        refine V_iadd K.1 dX9_readTown_73 ?_
        refine V_putI (key := 2253) K.1 dX9_readTown_74 rfl rfl fw_X9_97 pw_X9_13 rfl rfl rfl rfl ?_
        refine V_aload_n 0 K.1 dX9_readTown_77 rfl rfl ?_
        refine V_iconst (v := 0) K.1 dX9_readTown_78 (by decide) ?_
        refine V_putI (key := 2254) K.1 dX9_readTown_79 rfl rfl fw_X9_118 pw_X9_14 rfl rfl rfl rfl ?_
        exact (k5 c7 c27 c46)
      · refine V_iconst (v := 0) K.1 dX9_readTown_49 (by decide) ?_
        exact V_zret K dX9_readTown_50 (Or.inl rfl) (k6 c7 c27 c46)
  · refine V_iconst (v := 0) K.1 dX9_readTown_10 (by decide) ?_
    exact V_zret K dX9_readTown_11 (Or.inl rfl) (k7 c7)
set_option maxRecDepth 20000 in
theorem R_X9_readTown_82 {ω : WT} {κ : KT} {l : Launch} {d : Nat} {post : Option Value → St → Prop} {σ : St} {x1 : Int32}  (K : Cm ω κ l yX9_readTown cX9_readTown 2 d (some .boolean) post) (hdp : 1 ≤ d)
    (k1 : ((σ.1 2254) < (2 : Int32)) → ((σ.1 2254) = (8 : Int32)) → post (some (.int (0 : Int32))) σ)
    (p2 : ((σ.1 2254) < (2 : Int32)) → ¬ ((σ.1 2254) = (8 : Int32)) → ¬ (x1 ≤ (σ.1 2253)) → vp_in (σ.1 2253) 320)
    (k3 : ((σ.1 2254) < (2 : Int32)) → ¬ ((σ.1 2254) = (8 : Int32)) → ¬ ((if (x1 ≤ (σ.1 2253)) then (0 : Int32) else (if ((σ.2.1 38 ((σ.1 2253)).toNatClampNeg) = (59 : Int32)) then (1 : Int32) else (0 : Int32))) = 0) → V ω κ 131 [(0, .ref (ω.2.2.1 35)), (1, .int x1)] [.int x1, .ref (ω.2.2.1 35)] (pS σ 2253 ((σ.1 2253) + (1 : Int32))))
    (k4 : ((σ.1 2254) < (2 : Int32)) → ¬ ((σ.1 2254) = (8 : Int32)) → ((if (x1 ≤ (σ.1 2253)) then (0 : Int32) else (if ((σ.2.1 38 ((σ.1 2253)).toNatClampNeg) = (59 : Int32)) then (1 : Int32) else (0 : Int32))) = 0) → post (some (.int (0 : Int32))) σ)
    (k5 : ¬ ((σ.1 2254) < (2 : Int32)) → (x1 ≤ (σ.1 2253)) → post (some (.int (1 : Int32))) σ)
    (k6 : ¬ ((σ.1 2254) < (2 : Int32)) → ¬ (x1 ≤ (σ.1 2253)) → ((σ.1 2254) = (8 : Int32)) → post (some (.int (0 : Int32))) σ)
    (p7 : ¬ ((σ.1 2254) < (2 : Int32)) → ¬ (x1 ≤ (σ.1 2253)) → ¬ ((σ.1 2254) = (8 : Int32)) → ¬ (x1 ≤ (σ.1 2253)) → vp_in (σ.1 2253) 320)
    (k8 : ¬ ((σ.1 2254) < (2 : Int32)) → ¬ (x1 ≤ (σ.1 2253)) → ¬ ((σ.1 2254) = (8 : Int32)) → ¬ ((if (x1 ≤ (σ.1 2253)) then (0 : Int32) else (if ((σ.2.1 38 ((σ.1 2253)).toNatClampNeg) = (59 : Int32)) then (1 : Int32) else (0 : Int32))) = 0) → V ω κ 131 [(0, .ref (ω.2.2.1 35)), (1, .int x1)] [.int x1, .ref (ω.2.2.1 35)] (pS σ 2253 ((σ.1 2253) + (1 : Int32))))
    (k9 : ¬ ((σ.1 2254) < (2 : Int32)) → ¬ (x1 ≤ (σ.1 2253)) → ¬ ((σ.1 2254) = (8 : Int32)) → ((if (x1 ≤ (σ.1 2253)) then (0 : Int32) else (if ((σ.2.1 38 ((σ.1 2253)).toNatClampNeg) = (59 : Int32)) then (1 : Int32) else (0 : Int32))) = 0) → post (some (.int (0 : Int32))) σ) :
    V ω κ 82 [(0, .ref (ω.2.2.1 35)), (1, .int x1)] [] σ := by
  refine V_aload_n 0 K.1 dX9_readTown_82 rfl rfl ?_
  refine V_get (v := .int (σ.1 2254)) K.1 dX9_readTown_83 rfl rfl fw_X9_118 rfl rfl ?_
  refine V_iconst (v := 2) K.1 dX9_readTown_86 (by decide) ?_
  refine V_icmp_lt (tgt := 98) K.1 dX9_readTown_87 (by decide) (fun c87 => ?_) (fun c87 => ?_)
  · refine V_aload_n 0 K.1 dX9_readTown_98 rfl rfl ?_
    refine V_get (v := .int (σ.1 2254)) K.1 dX9_readTown_99 rfl rfl fw_X9_118 rfl rfl ?_
    refine V_bipush (v := 8) K.1 dX9_readTown_102 (by decide) ?_
    refine V_icmp_eq (tgt := 117) K.1 dX9_readTown_104 (by decide) (fun c104 => ?_) (fun c104 => ?_)
    · refine V_iconst (v := 0) K.1 dX9_readTown_117 (by decide) ?_
      exact V_zret K dX9_readTown_118 (Or.inl rfl) (k1 c87 c104)
    · refine V_aload_n 0 K.1 dX9_readTown_107 rfl rfl ?_
      refine V_bipush (v := 59) K.1 dX9_readTown_108 (by decide) ?_
      refine V_iload_n 1 K.1 dX9_readTown_110 rfl rfl ?_
      refine V_callV (d' := d - 1) (As := [.int (59 : Int32), .int x1]) K.1 dX9_readTown_111 cw_X9_133 rfl rfl rfl (by omega) rfl (by simp [Value.category]) (m_X9_isCode K.1.wf (by omega) (p2 c87 c104)) (go_I ?_)
      refine V_if_ne (tgt := 119) K.1 dX9_readTown_114 (by decide) (fun c114 => ?_) (fun c114 => ?_)
      · refine V_aload_n 0 K.1 dX9_readTown_119 rfl rfl ?_
        refine V_dup K.1 dX9_readTown_120 rfl ?_
        refine V_get (v := .int (σ.1 2253)) K.1 dX9_readTown_121 rfl rfl fw_X9_97 rfl rfl ?_
        refine V_iconst (v := 1) K.1 dX9_readTown_124 (by decide) ?_
        refine V_iadd K.1 dX9_readTown_125 ?_
        refine V_putI (key := 2253) K.1 dX9_readTown_126 rfl rfl fw_X9_97 pw_X9_13 rfl rfl rfl rfl ?_
        refine V_aload_n 0 K.1 dX9_readTown_129 rfl rfl ?_
        refine V_iload_n 1 K.1 dX9_readTown_130 rfl rfl ?_
        exact (k3 c87 c104 c114)
      · refine V_iconst (v := 0) K.1 dX9_readTown_117 (by decide) ?_
        exact V_zret K dX9_readTown_118 (Or.inl rfl) (k4 c87 c104 c114)
  · refine V_aload_n 0 K.1 dX9_readTown_90 rfl rfl ?_
    refine V_get (v := .int (σ.1 2253)) K.1 dX9_readTown_91 rfl rfl fw_X9_97 rfl rfl ?_
    refine V_iload_n 1 K.1 dX9_readTown_94 rfl rfl ?_
    refine V_icmp_ge (tgt := 139) K.1 dX9_readTown_95 (by decide) (fun c95 => ?_) (fun c95 => ?_)
    · refine V_iconst (v := 1) K.1 dX9_readTown_139 (by decide) ?_
      exact V_zret K dX9_readTown_140 (Or.inr rfl) (k5 c87 c95)
    · refine V_aload_n 0 K.1 dX9_readTown_98 rfl rfl ?_
      refine V_get (v := .int (σ.1 2254)) K.1 dX9_readTown_99 rfl rfl fw_X9_118 rfl rfl ?_
      refine V_bipush (v := 8) K.1 dX9_readTown_102 (by decide) ?_
      refine V_icmp_eq (tgt := 117) K.1 dX9_readTown_104 (by decide) (fun c104 => ?_) (fun c104 => ?_)
      · refine V_iconst (v := 0) K.1 dX9_readTown_117 (by decide) ?_
        exact V_zret K dX9_readTown_118 (Or.inl rfl) (k6 c87 c95 c104)
      · refine V_aload_n 0 K.1 dX9_readTown_107 rfl rfl ?_
        refine V_bipush (v := 59) K.1 dX9_readTown_108 (by decide) ?_
        refine V_iload_n 1 K.1 dX9_readTown_110 rfl rfl ?_
        refine V_callV (d' := d - 1) (As := [.int (59 : Int32), .int x1]) K.1 dX9_readTown_111 cw_X9_133 rfl rfl rfl (by omega) rfl (by simp [Value.category]) (m_X9_isCode K.1.wf (by omega) (p7 c87 c95 c104)) (go_I ?_)
        refine V_if_ne (tgt := 119) K.1 dX9_readTown_114 (by decide) (fun c114 => ?_) (fun c114 => ?_)
        · refine V_aload_n 0 K.1 dX9_readTown_119 rfl rfl ?_
          refine V_dup K.1 dX9_readTown_120 rfl ?_
          refine V_get (v := .int (σ.1 2253)) K.1 dX9_readTown_121 rfl rfl fw_X9_97 rfl rfl ?_
          refine V_iconst (v := 1) K.1 dX9_readTown_124 (by decide) ?_
          refine V_iadd K.1 dX9_readTown_125 ?_
          refine V_putI (key := 2253) K.1 dX9_readTown_126 rfl rfl fw_X9_97 pw_X9_13 rfl rfl rfl rfl ?_
          refine V_aload_n 0 K.1 dX9_readTown_129 rfl rfl ?_
          refine V_iload_n 1 K.1 dX9_readTown_130 rfl rfl ?_
          exact (k8 c87 c95 c104 c114)
        · refine V_iconst (v := 0) K.1 dX9_readTown_117 (by decide) ?_
          exact V_zret K dX9_readTown_118 (Or.inl rfl) (k9 c87 c95 c104 c114)
set_option maxRecDepth 20000 in
theorem R_X9_readTown_134 {ω : WT} {κ : KT} {l : Launch} {d : Nat} {post : Option Value → St → Prop} {σ : St} {x1 s0 : Int32}  (K : Cm ω κ l yX9_readTown cX9_readTown 2 d (some .boolean) post)
    (k1 : ¬ (s0 = 0) → V ω κ 82 [(0, .ref (ω.2.2.1 35)), (1, .int x1)] [] σ)
    (k2 : (s0 = 0) → post (some (.int (0 : Int32))) σ) :
    V ω κ 134 [(0, .ref (ω.2.2.1 35)), (1, .int x1)] [.int s0] σ := by
  refine V_if_ne (tgt := 82) K.1 dX9_readTown_134 (by decide) (fun c134 => ?_) (fun c134 => ?_)
  · exact (k1 c134)
  · refine V_iconst (v := 0) K.1 dX9_readTown_137 (by decide) ?_
    exact V_zret K dX9_readTown_138 (Or.inl rfl) (k2 c134)
set_option maxRecDepth 20000 in
theorem C_X9_readTown_131 {ω : WT} {κ : KT} {l : Launch} {d : Nat} {post : Option Value → St → Prop} {σ : St} {x1 s1 : Int32}  {post' : Option Value → St → Prop} (K : Cm ω κ l yX9_readTown cX9_readTown 2 d (some .boolean) post) (hdp : 1 ≤ d) (hM : Sp ω l yX9_readOne cX9_readOne 4 (some .boolean) (d - 1) [.ref (ω.2.2.1 35), .int s1] σ post')
    (kk : ∀ (v : Option Value) (σ' : St), post' v σ' → V ω κ 134 [(0, .ref (ω.2.2.1 35)), (1, .int x1)] (v.toList ++ []) σ') : V ω κ 131 [(0, .ref (ω.2.2.1 35)), (1, .int x1)] [.int s1, .ref (ω.2.2.1 35)] σ := by
  exact V_callV (d' := d - 1) (As := [.int s1]) (rest := []) K.1 dX9_readTown_131 cw_X9_137 rfl rfl rfl (by omega) rfl (by simp [Value.category]) hM (fun v σ' h => kk v σ' h)
set_option maxRecDepth 20000 in
theorem R_X9_town_0 {ω : WT} {κ : KT} {l : Launch} {d : Nat} {post : Option Value → St → Prop} {σ : St} {x1 x2 x3 x4 : Int32}  (K : Cm ω κ l yX9_town cX9_town 8 d (some .int) post) (hdp : 2 ≤ d)
    (p1 : ¬ ((if (x1 < (0 : Int32)) then (0 : Int32) else (if ((3 : Int32) < x1) then (0 : Int32) else (1 : Int32))) = 0) → ¬ ((if (x2 < (0 : Int32)) then (0 : Int32) else (if ((2 : Int32) < x2) then (0 : Int32) else (1 : Int32))) = 0) → vp_in x1 4)
    (p2 : ¬ ((if (x1 < (0 : Int32)) then (0 : Int32) else (if ((3 : Int32) < x1) then (0 : Int32) else (1 : Int32))) = 0) → ¬ ((if (x2 < (0 : Int32)) then (0 : Int32) else (if ((2 : Int32) < x2) then (0 : Int32) else (1 : Int32))) = 0) → ((σ.2.1 36 (x1).toNatClampNeg) = (-9 : Int32)) → vp_in x1 4)
    (p3 : ¬ ((if (x1 < (0 : Int32)) then (0 : Int32) else (if ((3 : Int32) < x1) then (0 : Int32) else (1 : Int32))) = 0) → ¬ ((if (x2 < (0 : Int32)) then (0 : Int32) else (if ((2 : Int32) < x2) then (0 : Int32) else (1 : Int32))) = 0) → ((σ.2.1 36 (x1).toNatClampNeg) = (-9 : Int32)) → ¬ ((σ.2.1 36 (x1).toNatClampNeg) = (-9 : Int32)) → (0 ≤ x4) → ¬ (x3 < 0) → vp_in x1 4)
    (p4 : ¬ ((if (x1 < (0 : Int32)) then (0 : Int32) else (if ((3 : Int32) < x1) then (0 : Int32) else (1 : Int32))) = 0) → ¬ ((if (x2 < (0 : Int32)) then (0 : Int32) else (if ((2 : Int32) < x2) then (0 : Int32) else (1 : Int32))) = 0) → ((σ.2.1 36 (x1).toNatClampNeg) = (-9 : Int32)) → ¬ ((σ.2.1 36 (x1).toNatClampNeg) = (-9 : Int32)) → (0 ≤ x4) → ¬ (x3 < 0) → ¬ ((σ.2.1 37 (x1).toNatClampNeg) < x3) → vp_in x1 4)
    (p5 : ¬ ((if (x1 < (0 : Int32)) then (0 : Int32) else (if ((3 : Int32) < x1) then (0 : Int32) else (1 : Int32))) = 0) → ¬ ((if (x2 < (0 : Int32)) then (0 : Int32) else (if ((2 : Int32) < x2) then (0 : Int32) else (1 : Int32))) = 0) → ¬ ((σ.2.1 36 (x1).toNatClampNeg) = (-9 : Int32)) → vp_in x1 4)
    (p6 : ¬ ((if (x1 < (0 : Int32)) then (0 : Int32) else (if ((3 : Int32) < x1) then (0 : Int32) else (1 : Int32))) = 0) → ¬ ((if (x2 < (0 : Int32)) then (0 : Int32) else (if ((2 : Int32) < x2) then (0 : Int32) else (1 : Int32))) = 0) → ¬ ((σ.2.1 36 (x1).toNatClampNeg) = (-9 : Int32)) → ((σ.2.1 36 (x1).toNatClampNeg) = x2) → vp_in x1 4)
    (p7 : ¬ ((if (x1 < (0 : Int32)) then (0 : Int32) else (if ((3 : Int32) < x1) then (0 : Int32) else (1 : Int32))) = 0) → ¬ ((if (x2 < (0 : Int32)) then (0 : Int32) else (if ((2 : Int32) < x2) then (0 : Int32) else (1 : Int32))) = 0) → ¬ ((σ.2.1 36 (x1).toNatClampNeg) = (-9 : Int32)) → ((σ.2.1 36 (x1).toNatClampNeg) = x2) → ¬ ((σ.2.1 36 (x1).toNatClampNeg) = (-9 : Int32)) → (0 ≤ x4) → ¬ (x3 < 0) → vp_in x1 4)
    (p8 : ¬ ((if (x1 < (0 : Int32)) then (0 : Int32) else (if ((3 : Int32) < x1) then (0 : Int32) else (1 : Int32))) = 0) → ¬ ((if (x2 < (0 : Int32)) then (0 : Int32) else (if ((2 : Int32) < x2) then (0 : Int32) else (1 : Int32))) = 0) → ¬ ((σ.2.1 36 (x1).toNatClampNeg) = (-9 : Int32)) → ((σ.2.1 36 (x1).toNatClampNeg) = x2) → ¬ ((σ.2.1 36 (x1).toNatClampNeg) = (-9 : Int32)) → (0 ≤ x4) → ¬ (x3 < 0) → ¬ ((σ.2.1 37 (x1).toNatClampNeg) < x3) → vp_in x1 4)
    (k9 : ¬ ((if (x1 < (0 : Int32)) then (0 : Int32) else (if ((3 : Int32) < x1) then (0 : Int32) else (1 : Int32))) = 0) → ¬ ((if (x2 < (0 : Int32)) then (0 : Int32) else (if ((2 : Int32) < x2) then (0 : Int32) else (1 : Int32))) = 0) → ((if ((σ.2.1 36 (x1).toNatClampNeg) = (-9 : Int32)) then (if ((σ.2.1 36 (x1).toNatClampNeg) = (-9 : Int32)) then (1 : Int32) else (if (0 ≤ x4) then (if (x3 < 0) then (3 : Int32) else (if ((σ.2.1 37 (x1).toNatClampNeg) < x3) then (3 : Int32) else (if (x4 ≤ ((σ.2.1 37 (x1).toNatClampNeg) - x3)) then (0 : Int32) else (3 : Int32)))) else (4 : Int32))) else (if ((σ.2.1 36 (x1).toNatClampNeg) = x2) then (if ((σ.2.1 36 (x1).toNatClampNeg) = (-9 : Int32)) then (1 : Int32) else (if (0 ≤ x4) then (if (x3 < 0) then (3 : Int32) else (if ((σ.2.1 37 (x1).toNatClampNeg) < x3) then (3 : Int32) else (if (x4 ≤ ((σ.2.1 37 (x1).toNatClampNeg) - x3)) then (0 : Int32) else (3 : Int32)))) else (4 : Int32))) else (2 : Int32))) = 0) → V ω κ 67 [(0, .ref (ω.2.2.1 35)), (6, .int (((80 : Int32) * x1) + x3))] [.int ((((80 : Int32) * x1) + x3) + x4), .ref (ω.2.2.1 35)] (pS (pS σ 2240 (0 : Int32)) 2253 (((80 : Int32) * x1) + x3)))
    (k10 : ¬ ((if (x1 < (0 : Int32)) then (0 : Int32) else (if ((3 : Int32) < x1) then (0 : Int32) else (1 : Int32))) = 0) → ¬ ((if (x2 < (0 : Int32)) then (0 : Int32) else (if ((2 : Int32) < x2) then (0 : Int32) else (1 : Int32))) = 0) → ¬ ((if ((σ.2.1 36 (x1).toNatClampNeg) = (-9 : Int32)) then (if ((σ.2.1 36 (x1).toNatClampNeg) = (-9 : Int32)) then (1 : Int32) else (if (0 ≤ x4) then (if (x3 < 0) then (3 : Int32) else (if ((σ.2.1 37 (x1).toNatClampNeg) < x3) then (3 : Int32) else (if (x4 ≤ ((σ.2.1 37 (x1).toNatClampNeg) - x3)) then (0 : Int32) else (3 : Int32)))) else (4 : Int32))) else (if ((σ.2.1 36 (x1).toNatClampNeg) = x2) then (if ((σ.2.1 36 (x1).toNatClampNeg) = (-9 : Int32)) then (1 : Int32) else (if (0 ≤ x4) then (if (x3 < 0) then (3 : Int32) else (if ((σ.2.1 37 (x1).toNatClampNeg) < x3) then (3 : Int32) else (if (x4 ≤ ((σ.2.1 37 (x1).toNatClampNeg) - x3)) then (0 : Int32) else (3 : Int32)))) else (4 : Int32))) else (2 : Int32))) = 0) → post (some (.int ((-10 : Int32) - (if ((σ.2.1 36 (x1).toNatClampNeg) = (-9 : Int32)) then (if ((σ.2.1 36 (x1).toNatClampNeg) = (-9 : Int32)) then (1 : Int32) else (if (0 ≤ x4) then (if (x3 < 0) then (3 : Int32) else (if ((σ.2.1 37 (x1).toNatClampNeg) < x3) then (3 : Int32) else (if (x4 ≤ ((σ.2.1 37 (x1).toNatClampNeg) - x3)) then (0 : Int32) else (3 : Int32)))) else (4 : Int32))) else (if ((σ.2.1 36 (x1).toNatClampNeg) = x2) then (if ((σ.2.1 36 (x1).toNatClampNeg) = (-9 : Int32)) then (1 : Int32) else (if (0 ≤ x4) then (if (x3 < 0) then (3 : Int32) else (if ((σ.2.1 37 (x1).toNatClampNeg) < x3) then (3 : Int32) else (if (x4 ≤ ((σ.2.1 37 (x1).toNatClampNeg) - x3)) then (0 : Int32) else (3 : Int32)))) else (4 : Int32))) else (2 : Int32)))))) (pS (pS σ 2240 (0 : Int32)) 2240 (if ((σ.2.1 36 (x1).toNatClampNeg) = (-9 : Int32)) then (if ((σ.2.1 36 (x1).toNatClampNeg) = (-9 : Int32)) then (1 : Int32) else (if (0 ≤ x4) then (if (x3 < 0) then (3 : Int32) else (if ((σ.2.1 37 (x1).toNatClampNeg) < x3) then (3 : Int32) else (if (x4 ≤ ((σ.2.1 37 (x1).toNatClampNeg) - x3)) then (0 : Int32) else (3 : Int32)))) else (4 : Int32))) else (if ((σ.2.1 36 (x1).toNatClampNeg) = x2) then (if ((σ.2.1 36 (x1).toNatClampNeg) = (-9 : Int32)) then (1 : Int32) else (if (0 ≤ x4) then (if (x3 < 0) then (3 : Int32) else (if ((σ.2.1 37 (x1).toNatClampNeg) < x3) then (3 : Int32) else (if (x4 ≤ ((σ.2.1 37 (x1).toNatClampNeg) - x3)) then (0 : Int32) else (3 : Int32)))) else (4 : Int32))) else (2 : Int32)))))
    (k11 : ¬ ((if (x1 < (0 : Int32)) then (0 : Int32) else (if ((3 : Int32) < x1) then (0 : Int32) else (1 : Int32))) = 0) → ((if (x2 < (0 : Int32)) then (0 : Int32) else (if ((2 : Int32) < x2) then (0 : Int32) else (1 : Int32))) = 0) → post (some (.int (-2 : Int32))) (pS σ 2240 (0 : Int32)))
    (k12 : ((if (x1 < (0 : Int32)) then (0 : Int32) else (if ((3 : Int32) < x1) then (0 : Int32) else (1 : Int32))) = 0) → post (some (.int (-1 : Int32))) (pS σ 2240 (0 : Int32))) :
    V ω κ 0 [(0, .ref (ω.2.2.1 35)), (1, .int x1), (2, .int x2), (3, .int x3), (4, .int x4)] [] σ := by
  refine V_aload_n 0 K.1 dX9_town_0 rfl rfl ?_
  refine V_iconst (v := 0) K.1 dX9_town_1 (by decide) ?_
  refine V_putI (key := 2240) K.1 dX9_town_2 rfl rfl fw_X9_81 pw_X9_0 rfl rfl rfl rfl ?_
  refine V_iload_n 1 K.1 dX9_town_5 rfl rfl ?_
  refine V_callS (d' := d - 1) (As := [.int x1]) K.1 dX9_town_6 cw_X9_100 rfl (by omega) rfl (by simp [Value.category]) (m_X9_isSheet K.1.wf (by omega)) (go_I ?_)
  refine V_if_ne (tgt := 14) K.1 dX9_town_9 (by decide) (fun c9 => ?_) (fun c9 => ?_)
  · refine V_iload_n 2 K.1 dX9_town_14 rfl rfl ?_
    refine V_callS (d' := d - 1) (As := [.int x2]) K.1 dX9_town_15 cw_X9_104 rfl (by omega) rfl (by simp [Value.category]) (m_X9_isSort K.1.wf (by omega)) (go_I ?_)
    refine V_if_ne (tgt := 24) K.1 dX9_town_18 (by decide) (fun c18 => ?_) (fun c18 => ?_)
    · refine V_aload_n 0 K.1 dX9_town_24 rfl rfl ?_
      refine V_iload_n 1 K.1 dX9_town_25 rfl rfl ?_
      refine V_iload_n 2 K.1 dX9_town_26 rfl rfl ?_
      refine V_iload_n 3 K.1 dX9_town_27 rfl rfl ?_
      refine V_iload 4 K.1 dX9_town_28 rfl ?_
      refine V_callV (d' := d - 1) (As := [.int x1, .int x2, .int x3, .int x4]) K.1 dX9_town_30 cw_X9_107 rfl rfl rfl (by omega) rfl (by simp [Value.category]) (m_X9_against K.1.wf (by omega) (p1 c9 c18) (p2 c9 c18) (p3 c9 c18) (p4 c9 c18) (p5 c9 c18) (p6 c9 c18) (p7 c9 c18) (p8 c9 c18)) (go_I ?_)
      refine V_istore (L' := [(0, .ref (ω.2.2.1 35)), (1, .int x1), (2, .int x2), (3, .int x3), (4, .int x4), (5, .int (if ((σ.2.1 36 (x1).toNatClampNeg) = (-9 : Int32)) then (if ((σ.2.1 36 (x1).toNatClampNeg) = (-9 : Int32)) then (1 : Int32) else (if (0 ≤ x4) then (if (x3 < 0) then (3 : Int32) else (if ((σ.2.1 37 (x1).toNatClampNeg) < x3) then (3 : Int32) else (if (x4 ≤ ((σ.2.1 37 (x1).toNatClampNeg) - x3)) then (0 : Int32) else (3 : Int32)))) else (4 : Int32))) else (if ((σ.2.1 36 (x1).toNatClampNeg) = x2) then (if ((σ.2.1 36 (x1).toNatClampNeg) = (-9 : Int32)) then (1 : Int32) else (if (0 ≤ x4) then (if (x3 < 0) then (3 : Int32) else (if ((σ.2.1 37 (x1).toNatClampNeg) < x3) then (3 : Int32) else (if (x4 ≤ ((σ.2.1 37 (x1).toNatClampNeg) - x3)) then (0 : Int32) else (3 : Int32)))) else (4 : Int32))) else (2 : Int32))))]) K.1 dX9_town_33 (by decide) rfl ?_
      refine V_iload 5 K.1 dX9_town_35 rfl ?_
      refine V_if_eq (tgt := 47) K.1 dX9_town_37 (by decide) (fun c37 => ?_) (fun c37 => ?_)
      · refine V_bipush (v := 80) K.1 dX9_town_47 (by decide) ?_
        refine V_iload_n 1 K.1 dX9_town_49 rfl rfl ?_
        refine V_imul K.1 dX9_town_50 ?_
        refine V_iload_n 3 K.1 dX9_town_51 rfl rfl ?_
        refine V_iadd K.1 dX9_town_52 ?_
        refine V_istore (L' := [(0, .ref (ω.2.2.1 35)), (1, .int x1), (2, .int x2), (3, .int x3), (4, .int x4), (5, .int (if ((σ.2.1 36 (x1).toNatClampNeg) = (-9 : Int32)) then (if ((σ.2.1 36 (x1).toNatClampNeg) = (-9 : Int32)) then (1 : Int32) else (if (0 ≤ x4) then (if (x3 < 0) then (3 : Int32) else (if ((σ.2.1 37 (x1).toNatClampNeg) < x3) then (3 : Int32) else (if (x4 ≤ ((σ.2.1 37 (x1).toNatClampNeg) - x3)) then (0 : Int32) else (3 : Int32)))) else (4 : Int32))) else (if ((σ.2.1 36 (x1).toNatClampNeg) = x2) then (if ((σ.2.1 36 (x1).toNatClampNeg) = (-9 : Int32)) then (1 : Int32) else (if (0 ≤ x4) then (if (x3 < 0) then (3 : Int32) else (if ((σ.2.1 37 (x1).toNatClampNeg) < x3) then (3 : Int32) else (if (x4 ≤ ((σ.2.1 37 (x1).toNatClampNeg) - x3)) then (0 : Int32) else (3 : Int32)))) else (4 : Int32))) else (2 : Int32)))), (6, .int (((80 : Int32) * x1) + x3))]) K.1 dX9_town_53 (by decide) rfl ?_
        refine V_aload_n 0 K.1 dX9_town_55 rfl rfl ?_
        refine V_iload 6 K.1 dX9_town_56 rfl ?_
        refine V_putI (key := 2253) K.1 dX9_town_58 rfl rfl fw_X9_97 pw_X9_13 rfl rfl rfl rfl ?_
        refine V_aload_n 0 K.1 dX9_town_61 rfl rfl ?_
        refine V_iload 6 K.1 dX9_town_62 rfl ?_
        refine V_iload 4 K.1 dX9_town_64 rfl ?_
        refine V_iadd K.1 dX9_town_66 ?_
        exact V_sub [0, 6] rfl (k9 c9 c18 c37)
      · refine V_aload_n 0 K.1 dX9_town_40 rfl rfl ?_
        refine V_iload 5 K.1 dX9_town_41 rfl ?_
        refine V_callV (d' := d - 1) (As := [.int (if ((σ.2.1 36 (x1).toNatClampNeg) = (-9 : Int32)) then (if ((σ.2.1 36 (x1).toNatClampNeg) = (-9 : Int32)) then (1 : Int32) else (if (0 ≤ x4) then (if (x3 < 0) then (3 : Int32) else (if ((σ.2.1 37 (x1).toNatClampNeg) < x3) then (3 : Int32) else (if (x4 ≤ ((σ.2.1 37 (x1).toNatClampNeg) - x3)) then (0 : Int32) else (3 : Int32)))) else (4 : Int32))) else (if ((σ.2.1 36 (x1).toNatClampNeg) = x2) then (if ((σ.2.1 36 (x1).toNatClampNeg) = (-9 : Int32)) then (1 : Int32) else (if (0 ≤ x4) then (if (x3 < 0) then (3 : Int32) else (if ((σ.2.1 37 (x1).toNatClampNeg) < x3) then (3 : Int32) else (if (x4 ≤ ((σ.2.1 37 (x1).toNatClampNeg) - x3)) then (0 : Int32) else (3 : Int32)))) else (4 : Int32))) else (2 : Int32)))]) K.1 dX9_town_43 cw_X9_111 rfl rfl rfl (by omega) rfl (by simp [Value.category]) (m_X9_fails K.1.wf (by omega)) (go_I ?_)
        exact V_iret K dX9_town_46 (k10 c9 c18 c37)
    · refine V_bipush (v := -2) K.1 dX9_town_21 (by decide) ?_
      exact V_iret K dX9_town_23 (k11 c9 c18)
  · refine V_iconst (v := -1) K.1 dX9_town_12 (by decide) ?_
    exact V_iret K dX9_town_13 (k12 c9)
set_option maxRecDepth 20000 in
theorem R_X9_town_70 {ω : WT} {κ : KT} {l : Launch} {d : Nat} {post : Option Value → St → Prop} {σ : St} {x6 s0 : Int32}  (K : Cm ω κ l yX9_town cX9_town 8 d (some .int) post)
    (k1 : ¬ (s0 = 0) → V ω κ 103 [(0, .ref (ω.2.2.1 35)), (7, .int (0 : Int32))] [] (pS (pS σ 2245 (σ.1 2254)) 2246 (σ.1 2255)))
    (k2 : (s0 = 0) → post (some (.int ((-100 : Int32) - ((σ.1 2253) - x6)))) σ) :
    V ω κ 70 [(0, .ref (ω.2.2.1 35)), (6, .int x6)] [.int s0] σ := by
  refine V_if_ne (tgt := 84) K.1 dX9_town_70 (by decide) (fun c70 => ?_) (fun c70 => ?_)
  · refine V_aload_n 0 K.1 dX9_town_84 rfl rfl ?_
    refine V_aload_n 0 K.1 dX9_town_85 rfl rfl ?_
    refine V_get (v := .int (σ.1 2254)) K.1 dX9_town_86 rfl rfl fw_X9_118 rfl rfl ?_
    refine V_putI (key := 2245) K.1 dX9_town_89 rfl rfl fw_X9_91 pw_X9_5 rfl rfl rfl rfl ?_
    refine V_aload_n 0 K.1 dX9_town_92 rfl rfl ?_
    refine V_aload_n 0 K.1 dX9_town_93 rfl rfl ?_
    refine V_get (v := .int (σ.1 2255)) K.1 dX9_town_94 rfl rfl fw_X9_121 rfl rfl ?_
    refine V_putI (key := 2246) K.1 dX9_town_97 rfl rfl fw_X9_94 pw_X9_6 rfl rfl rfl rfl ?_
    refine V_iconst (v := 0) K.1 dX9_town_100 (by decide) ?_
    refine V_istore (L' := [(0, .ref (ω.2.2.1 35)), (6, .int x6), (7, .int (0 : Int32))]) K.1 dX9_town_101 (by decide) rfl ?_
    exact V_sub [0, 2] rfl (k1 c70)
  · refine V_bipush (v := -100) K.1 dX9_town_73 (by decide) ?_
    refine V_aload_n 0 K.1 dX9_town_75 rfl rfl ?_
    refine V_get (v := .int (σ.1 2253)) K.1 dX9_town_76 rfl rfl fw_X9_97 rfl rfl ?_
    refine V_iload 1 K.1 dX9_town_79 rfl ?_
    refine V_isub K.1 dX9_town_81 ?_
    refine V_isub K.1 dX9_town_82 ?_
    exact V_iret K dX9_town_83 (k2 c70)
set_option maxRecDepth 20000 in
theorem R_X9_town_103 {ω : WT} {κ : KT} {l : Launch} {d : Nat} {post : Option Value → St → Prop} {σ : St} {x7 : Int32}  (K : Cm ω κ l yX9_town cX9_town 8 d (some .int) post)
    (k1 : ((σ.1 2245) ≤ x7) → V ω κ 167 [(0, .ref (ω.2.2.1 35)), (7, .int (0 : Int32))] [] (pS (pS (pS σ 2249 (0 : Int32)) 2250 (0 : Int32)) 2251 (σ.1 2246)))
    (b2 : ¬ ((σ.1 2245) ≤ x7) → vp_in x7 8)
    (b3 : ¬ ((σ.1 2245) ≤ x7) → vp_in x7 8)
    (b4 : ¬ ((σ.1 2245) ≤ x7) → vp_in x7 8)
    (b5 : ¬ ((σ.1 2245) ≤ x7) → vp_in x7 8)
    (k6 : ¬ ((σ.1 2245) ≤ x7) → V ω κ 103 [(0, .ref (ω.2.2.1 35)), (7, .int (x7 + 1))] [] (pA (pA σ 39 (x7).toNatClampNeg (σ.2.1 42 (x7).toNatClampNeg)) 40 (x7).toNatClampNeg (σ.2.1 43 (x7).toNatClampNeg))) :
    V ω κ 103 [(0, .ref (ω.2.2.1 35)), (7, .int x7)] [] σ := by
  refine V_iload 1 K.1 dX9_town_103 rfl ?_
  refine V_aload_n 0 K.1 dX9_town_105 rfl rfl ?_
  refine V_get (v := .int (σ.1 2245)) K.1 dX9_town_106 rfl rfl fw_X9_91 rfl rfl ?_
  refine V_icmp_ge (tgt := 146) K.1 dX9_town_109 (by decide) (fun c109 => ?_) (fun c109 => ?_)
  · refine V_aload_n 0 K.1 dX9_town_146 rfl rfl ?_
    refine V_iconst (v := 0) K.1 dX9_town_147 (by decide) ?_
    refine V_putI (key := 2249) K.1 dX9_town_148 rfl rfl fw_X9_124 pw_X9_9 rfl rfl rfl rfl ?_
    refine V_aload_n 0 K.1 dX9_town_151 rfl rfl ?_
    refine V_iconst (v := 0) K.1 dX9_town_152 (by decide) ?_
    refine V_putI (key := 2250) K.1 dX9_town_153 rfl rfl fw_X9_127 pw_X9_10 rfl rfl rfl rfl ?_
    refine V_aload_n 0 K.1 dX9_town_156 rfl rfl ?_
    refine V_aload_n 0 K.1 dX9_town_157 rfl rfl ?_
    refine V_get (v := .int (σ.1 2246)) K.1 dX9_town_158 rfl rfl fw_X9_94 rfl rfl ?_
    refine V_putI (key := 2251) K.1 dX9_town_161 rfl rfl fw_X9_130 pw_X9_11 rfl rfl rfl rfl ?_
    refine V_iconst (v := 0) K.1 dX9_town_164 (by decide) ?_
    refine V_istore (L' := [(0, .ref (ω.2.2.1 35)), (7, .int (0 : Int32))]) K.1 dX9_town_165 (by decide) rfl ?_
    exact (k1 c109)
  · refine V_aload_n 0 K.1 dX9_town_112 rfl rfl ?_
    refine V_get (v := .ref (ω.2.2.1 39)) K.1 dX9_town_113 rfl rfl fw_X9_19 rfl rfl ?_
    refine V_iload 1 K.1 dX9_town_116 rfl ?_
    refine V_aload_n 0 K.1 dX9_town_118 rfl rfl ?_
    refine V_get (v := .ref (ω.2.2.1 42)) K.1 dX9_town_119 rfl rfl fw_X9_28 rfl rfl ?_
    refine V_iload 1 K.1 dX9_town_122 rfl ?_
    refine V_iaload (v := (σ.2.1 42 (x7).toNatClampNeg)) K.1 dX9_town_124 rfl (b2 c109) rfl ?_
    refine V_iastore K.1 dX9_town_125 rfl (b3 c109) ?_
    refine V_aload_n 0 K.1 dX9_town_126 rfl rfl ?_
    refine V_get (v := .ref (ω.2.2.1 40)) K.1 dX9_town_127 rfl rfl fw_X9_22 rfl rfl ?_
    refine V_iload 1 K.1 dX9_town_130 rfl ?_
    refine V_aload_n 0 K.1 dX9_town_132 rfl rfl ?_
    refine V_get (v := .ref (ω.2.2.1 43)) K.1 dX9_town_133 rfl rfl fw_X9_31 rfl rfl ?_
    refine V_iload 1 K.1 dX9_town_136 rfl ?_
    refine V_iaload (v := (σ.2.1 43 (x7).toNatClampNeg)) K.1 dX9_town_138 rfl (b4 c109) rfl ?_
    refine V_iastore K.1 dX9_town_139 rfl (b5 c109) ?_
    refine V_iinc (v := (x7 + 1)) (L' := [(0, .ref (ω.2.2.1 35)), (7, .int (x7 + 1))]) 1 K.1 dX9_town_140 rfl rfl (by decide) rfl ?_
    refine V_goto (tgt := 103) K.1 dX9_town_143 (by decide) ?_
    exact (k6 c109)
set_option maxRecDepth 20000 in
theorem R_X9_town_167 {ω : WT} {κ : KT} {l : Launch} {d : Nat} {post : Option Value → St → Prop} {σ : St} {x7 : Int32}  (K : Cm ω κ l yX9_town cX9_town 8 d (some .int) post)
    (k1 : ((σ.1 2246) ≤ x7) → post (some (.int (σ.1 2245))) σ)
    (b2 : ¬ ((σ.1 2246) ≤ x7) → vp_in x7 6)
    (k3 : ¬ ((σ.1 2246) ≤ x7) → V ω κ 167 [(0, .ref (ω.2.2.1 35)), (7, .int (x7 + 1))] [] (pA σ 41 (x7).toNatClampNeg x7)) :
    V ω κ 167 [(0, .ref (ω.2.2.1 35)), (7, .int x7)] [] σ := by
  refine V_iload 1 K.1 dX9_town_167 rfl ?_
  refine V_aload_n 0 K.1 dX9_town_169 rfl rfl ?_
  refine V_get (v := .int (σ.1 2246)) K.1 dX9_town_170 rfl rfl fw_X9_94 rfl rfl ?_
  refine V_icmp_ge (tgt := 191) K.1 dX9_town_173 (by decide) (fun c173 => ?_) (fun c173 => ?_)
  · refine V_aload_n 0 K.1 dX9_town_191 rfl rfl ?_
    refine V_get (v := .int (σ.1 2245)) K.1 dX9_town_192 rfl rfl fw_X9_91 rfl rfl ?_
    exact V_iret K dX9_town_195 (k1 c173)
  · refine V_aload_n 0 K.1 dX9_town_176 rfl rfl ?_
    refine V_get (v := .ref (ω.2.2.1 41)) K.1 dX9_town_177 rfl rfl fw_X9_25 rfl rfl ?_
    refine V_iload 1 K.1 dX9_town_180 rfl ?_
    refine V_iload 1 K.1 dX9_town_182 rfl ?_
    refine V_iastore K.1 dX9_town_184 rfl (b2 c173) ?_
    refine V_iinc (v := (x7 + 1)) (L' := [(0, .ref (ω.2.2.1 35)), (7, .int (x7 + 1))]) 1 K.1 dX9_town_185 rfl rfl (by decide) rfl ?_
    refine V_goto (tgt := 167) K.1 dX9_town_188 (by decide) ?_
    exact (k3 c173)
set_option maxRecDepth 20000 in
theorem C_X9_town_67 {ω : WT} {κ : KT} {l : Launch} {d : Nat} {post : Option Value → St → Prop} {σ : St} {x6 s1 : Int32}  {post' : Option Value → St → Prop} (K : Cm ω κ l yX9_town cX9_town 8 d (some .int) post) (hdp : 1 ≤ d) (hM : Sp ω l yX9_readTown cX9_readTown 2 (some .boolean) (d - 1) [.ref (ω.2.2.1 35), .int s1] σ post')
    (kk : ∀ (v : Option Value) (σ' : St), post' v σ' → V ω κ 70 [(0, .ref (ω.2.2.1 35)), (6, .int x6)] (v.toList ++ []) σ') : V ω κ 67 [(0, .ref (ω.2.2.1 35)), (6, .int x6)] [.int s1, .ref (ω.2.2.1 35)] σ := by
  exact V_callV (d' := d - 1) (As := [.int s1]) (rest := []) K.1 dX9_town_67 cw_X9_115 rfl rfl rfl (by omega) rfl (by simp [Value.category]) hM (fun v σ' h => kk v σ' h)
