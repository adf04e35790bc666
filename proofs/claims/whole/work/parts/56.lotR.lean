set_option maxRecDepth 20000 in
theorem R_X3_countSets_0 {ω : WT} {κ : KT} {l : Launch} {d : Nat} {post : Option Value → St → Prop} {σ : St}  (K : Cm ω κ l yX3_countSets cX3_countSets 3 d none post) (hdp : 1 ≤ d)
    (b1 : vp_in (0 : Int32) 9)
    (k2 : V ω κ 17 [(0, .ref (ω.2.2.1 31)), (1, .int (0 : Int32))] [] (pA (pF σ 32 (fillF (σ.2.1 32) (0 : Int32) 9)) 32 ((0 : Int32)).toNatClampNeg (1 : Int32))) :
    V ω κ 0 [(0, .ref (ω.2.2.1 31))] [] σ := by
  refine V_aload_n 0 K.1 dX3_countSets_0 rfl rfl ?_
  refine V_get (v := .ref (ω.2.2.1 32)) K.1 dX3_countSets_1 rfl rfl fw_X3_9 rfl rfl ?_
  refine V_iconst (v := 0) K.1 dX3_countSets_4 (by decide) ?_
  refine V_callS (d' := d - 1) (As := [.ref (ω.2.2.1 32), .int (0 : Int32)]) K.1 dX3_countSets_5 cw_X3_71 rfl (by omega) rfl (by simp [Value.category]) (m_J7_fill_53178 rfl K.1.wf (by omega)) (go_V ?_)
  refine V_aload_n 0 K.1 dX3_countSets_8 rfl rfl ?_
  refine V_get (v := .ref (ω.2.2.1 32)) K.1 dX3_countSets_9 rfl rfl fw_X3_9 rfl rfl ?_
  refine V_iconst (v := 0) K.1 dX3_countSets_12 (by decide) ?_
  refine V_iconst (v := 1) K.1 dX3_countSets_13 (by decide) ?_
  refine V_iastore K.1 dX3_countSets_14 rfl b1 ?_
  refine V_iconst (v := 0) K.1 dX3_countSets_15 (by decide) ?_
  refine V_istore_n (L' := [(0, .ref (ω.2.2.1 31)), (1, .int (0 : Int32))]) K.1 dX3_countSets_16 rfl (by decide) rfl ?_
  exact k2
set_option maxRecDepth 20000 in
theorem R_X3_countSets_17 {ω : WT} {κ : KT} {l : Launch} {d : Nat} {post : Option Value → St → Prop} {σ : St} {x1 : Int32}  (K : Cm ω κ l yX3_countSets cX3_countSets 3 d none post)
    (k1 : ((σ.1 640) ≤ x1) → post none σ)
    (k2 : ¬ ((σ.1 640) ≤ x1) → V ω κ 32 [(0, .ref (ω.2.2.1 31)), (1, .int x1), (2, .int (x1 + (1 : Int32)))] [] σ) :
    V ω κ 17 [(0, .ref (ω.2.2.1 31)), (1, .int x1)] [] σ := by
  refine V_iload_n 1 K.1 dX3_countSets_17 rfl rfl ?_
  refine V_aload_n 0 K.1 dX3_countSets_18 rfl rfl ?_
  refine V_get (v := .ref (ω.2.2.1 10)) K.1 dX3_countSets_19 rfl rfl fw_X3_22 rfl rfl ?_
  refine V_get (v := .int (σ.1 640)) K.1 dX3_countSets_22 rfl rfl fw_X3_39 rfl rfl ?_
  refine V_icmp_ge (tgt := 65) K.1 dX3_countSets_25 (by decide) (fun c25 => ?_) (fun c25 => ?_)
  · exact V_vret K dX3_countSets_65 (k1 c25)
  · refine V_iload_n 1 K.1 dX3_countSets_28 rfl rfl ?_
    refine V_iconst (v := 1) K.1 dX3_countSets_29 (by decide) ?_
    refine V_iadd K.1 dX3_countSets_30 ?_
    refine V_istore_n (L' := [(0, .ref (ω.2.2.1 31)), (1, .int x1), (2, .int (x1 + (1 : Int32)))]) K.1 dX3_countSets_31 rfl (by decide) rfl ?_
    exact (k2 c25)
set_option maxRecDepth 20000 in
theorem R_X3_countSets_32 {ω : WT} {κ : KT} {l : Launch} {d : Nat} {post : Option Value → St → Prop} {σ : St} {x1 x2 : Int32}  (K : Cm ω κ l yX3_countSets cX3_countSets 3 d none post)
    (k1 : (x2 ≤ 0) → V ω κ 17 [(0, .ref (ω.2.2.1 31)), (1, .int (x1 + 1))] [] σ)
    (b2 : ¬ (x2 ≤ 0) → vp_in x2 9)
    (b3 : ¬ (x2 ≤ 0) → vp_in (x2 - (1 : Int32)) 9)
    (b4 : ¬ (x2 ≤ 0) → vp_in x2 9)
    (k5 : ¬ (x2 ≤ 0) → V ω κ 32 [(0, .ref (ω.2.2.1 31)), (1, .int x1), (2, .int (x2 + -1))] [] (pA σ 32 (x2).toNatClampNeg ((σ.2.1 32 (x2).toNatClampNeg) + (σ.2.1 32 ((x2 - (1 : Int32))).toNatClampNeg)))) :
    V ω κ 32 [(0, .ref (ω.2.2.1 31)), (1, .int x1), (2, .int x2)] [] σ := by
  refine V_iload_n 2 K.1 dX3_countSets_32 rfl rfl ?_
  refine V_if_le (tgt := 59) K.1 dX3_countSets_33 (by decide) (fun c33 => ?_) (fun c33 => ?_)
  · refine V_iinc (v := (x1 + 1)) (L' := [(0, .ref (ω.2.2.1 31)), (1, .int (x1 + 1)), (2, .int x2)]) 1 K.1 dX3_countSets_59 rfl rfl (by decide) rfl ?_
    refine V_goto (tgt := 17) K.1 dX3_countSets_62 (by decide) ?_
    exact V_sub [0, 1] rfl (k1 c33)
  · refine V_aload_n 0 K.1 dX3_countSets_36 rfl rfl ?_
    refine V_get (v := .ref (ω.2.2.1 32)) K.1 dX3_countSets_37 rfl rfl fw_X3_9 rfl rfl ?_
    refine V_iload_n 2 K.1 dX3_countSets_40 rfl rfl ?_
    refine V_dup2 K.1 dX3_countSets_41 rfl rfl ?_
    refine V_iaload (v := (σ.2.1 32 (x2).toNatClampNeg)) K.1 dX3_countSets_42 rfl (b2 c33) rfl ?_
    refine V_aload_n 0 K.1 dX3_countSets_43 rfl rfl ?_
    refine V_get (v := .ref (ω.2.2.1 32)) K.1 dX3_countSets_44 rfl rfl fw_X3_9 rfl rfl ?_
    refine V_iload_n 2 K.1 dX3_countSets_47 rfl rfl ?_
    refine V_iconst (v := 1) K.1 dX3_countSets_48 (by decide) ?_
    refine V_isub K.1 dX3_countSets_49 ?_
    refine V_iaload (v := (σ.2.1 32 ((x2 - (1 : Int32))).toNatClampNeg)) K.1 dX3_countSets_50 rfl (b3 c33) rfl ?_
    refine V_iadd K.1 dX3_countSets_51 ?_
    refine V_iastore K.1 dX3_countSets_52 rfl (b4 c33) ?_
    refine V_iinc (v := (x2 + -1)) (L' := [(0, .ref (ω.2.2.1 31)), (1, .int x1), (2, .int (x2 + -1))]) 2 K.1 dX3_countSets_53 rfl rfl (by decide) rfl ?_
    refine V_goto (tgt := 32) K.1 dX3_countSets_56 (by decide) ?_
    exact (k5 c33)
set_option maxRecDepth 20000 in
theorem R_X3_commonDivisor_0 {ω : WT} {κ : KT} {l : Launch} {d : Nat} {post : Option Value → St → Prop} {σ : St} {x0 x2 : Int64}  (K : Cm ω κ l yX3_commonDivisor cX3_commonDivisor 7 d (some .long) post)
    (k1 : V ω κ 3 [(0, .long x0), (2, .long x2), (4, .int (0 : Int32))] [] σ) :
    V ω κ 0 [(0, .long x0), (2, .long x2)] [] σ := by
  refine V_iconst (v := 0) K.1 dX3_commonDivisor_0 (by decide) ?_
  refine V_istore (L' := [(0, .long x0), (2, .long x2), (4, .int (0 : Int32))]) K.1 dX3_commonDivisor_1 (by decide) rfl ?_
  exact k1
set_option maxRecDepth 20000 in
theorem R_X3_commonDivisor_3 {ω : WT} {κ : KT} {l : Launch} {d : Nat} {post : Option Value → St → Prop} {σ : St} {x4 : Int32} {x0 x2 : Int64}  (K : Cm ω κ l yX3_commonDivisor cX3_commonDivisor 7 d (some .long) post)
    (k1 : ((200 : Int32) ≤ x4) → post (some (.long x0)) σ)
    (k2 : ¬ ((200 : Int32) ≤ x4) → ((lg_cmp x2 (0 : Int64)) = 0) → post (some (.long x0)) σ)
    (n3 : ¬ ((200 : Int32) ≤ x4) → ¬ ((lg_cmp x2 (0 : Int64)) = 0) → ¬ x2 = 0)
    (k4 : ¬ ((200 : Int32) ≤ x4) → ¬ ((lg_cmp x2 (0 : Int64)) = 0) → V ω κ 3 [(0, .long x2), (2, .long (x0 - x0 / x2 * x2)), (4, .int (x4 + 1))] [] σ) :
    V ω κ 3 [(0, .long x0), (2, .long x2), (4, .int x4)] [] σ := by
  refine V_iload 2 K.1 dX3_commonDivisor_3 rfl ?_
  refine V_sipush (v := 200) K.1 dX3_commonDivisor_5 (by decide) ?_
  refine V_icmp_ge (tgt := 33) K.1 dX3_commonDivisor_8 (by decide) (fun c8 => ?_) (fun c8 => ?_)
  · refine V_lload_n 0 K.1 dX3_commonDivisor_33 rfl rfl ?_
    exact V_lret K dX3_commonDivisor_34 (k1 c8)
  · refine V_lload_n 1 K.1 dX3_commonDivisor_11 rfl rfl ?_
    refine V_lconst (v := 0) K.1 dX3_commonDivisor_12 (by decide) ?_
    refine V_lcmp K.1 dX3_commonDivisor_13 ?_
    refine V_if_eq (tgt := 33) K.1 dX3_commonDivisor_14 (by decide) (fun c14 => ?_) (fun c14 => ?_)
    · refine V_lload_n 0 K.1 dX3_commonDivisor_33 rfl rfl ?_
      exact V_lret K dX3_commonDivisor_34 (k2 c8 c14)
    · refine V_lload_n 0 K.1 dX3_commonDivisor_17 rfl rfl ?_
      refine V_lload_n 1 K.1 dX3_commonDivisor_18 rfl rfl ?_
      refine V_lrem K.1 dX3_commonDivisor_19 (n3 c8 c14) ?_
      refine V_lstore (L' := [(0, .long x0), (2, .long x2), (4, .int x4), (5, .long (x0 - x0 / x2 * x2))]) K.1 dX3_commonDivisor_20 (by decide) rfl ?_
      refine V_lload_n 1 K.1 dX3_commonDivisor_22 rfl rfl ?_
      refine V_lstore_n (L' := [(0, .long x2), (2, .long x2), (4, .int x4), (5, .long (x0 - x0 / x2 * x2))]) K.1 dX3_commonDivisor_23 rfl (by decide) rfl ?_
      refine V_lload 3 K.1 dX3_commonDivisor_24 rfl ?_
      refine V_lstore_n (L' := [(0, .long x2), (2, .long (x0 - x0 / x2 * x2)), (4, .int x4), (5, .long (x0 - x0 / x2 * x2))]) K.1 dX3_commonDivisor_26 rfl (by decide) rfl ?_
      refine V_iinc (v := (x4 + 1)) (L' := [(0, .long x2), (2, .long (x0 - x0 / x2 * x2)), (4, .int (x4 + 1)), (5, .long (x0 - x0 / x2 * x2))]) 2 K.1 dX3_commonDivisor_27 rfl rfl (by decide) rfl ?_
      refine V_goto (tgt := 3) K.1 dX3_commonDivisor_30 (by decide) ?_
      exact V_sub [0, 1, 2] rfl (k4 c8 c14)
set_option maxRecDepth 20000 in
theorem R_X3_voteOfAllSets_0 {ω : WT} {κ : KT} {l : Launch} {d : Nat} {post : Option Value → St → Prop} {σ : St} {x1 : Int32}  (K : Cm ω κ l yX3_voteOfAllSets cX3_voteOfAllSets 8 d (some .long) post) (hdp : 1 ≤ d)
    (k1 : V ω κ 13 [(0, .ref (ω.2.2.1 31)), (1, .int x1), (2, .long (0 : Int64)), (4, .int (0 : Int32))] [] (pG σ 34 (fillF (σ.2.2.2 34) (0 : Int64) 9))) :
    V ω κ 0 [(0, .ref (ω.2.2.1 31)), (1, .int x1)] [] σ := by
  refine V_aload_n 0 K.1 dX3_voteOfAllSets_0 rfl rfl ?_
  refine V_get (v := .ref (ω.2.2.1 34)) K.1 dX3_voteOfAllSets_1 rfl rfl fw_X3_19 rfl rfl ?_
  refine V_lconst (v := 0) K.1 dX3_voteOfAllSets_4 (by decide) ?_
  refine V_callS (d' := d - 1) (As := [.ref (ω.2.2.1 34), .long (0 : Int64)]) K.1 dX3_voteOfAllSets_5 cw_X3_33 rfl (by omega) rfl (by simp [Value.category]) (m_J7_fill_d0a16 rfl K.1.wf (by omega)) (go_V ?_)
  refine V_lconst (v := 0) K.1 dX3_voteOfAllSets_8 (by decide) ?_
  refine V_lstore_n (L' := [(0, .ref (ω.2.2.1 31)), (1, .int x1), (2, .long (0 : Int64))]) K.1 dX3_voteOfAllSets_9 rfl (by decide) rfl ?_
  refine V_iconst (v := 0) K.1 dX3_voteOfAllSets_10 (by decide) ?_
  refine V_istore (L' := [(0, .ref (ω.2.2.1 31)), (1, .int x1), (2, .long (0 : Int64)), (4, .int (0 : Int32))]) K.1 dX3_voteOfAllSets_11 (by decide) rfl ?_
  exact k1
set_option maxRecDepth 20000 in
theorem R_X3_voteOfAllSets_13 {ω : WT} {κ : KT} {l : Launch} {d : Nat} {post : Option Value → St → Prop} {σ : St} {x1 x4 : Int32} {x2 : Int64}  (K : Cm ω κ l yX3_voteOfAllSets cX3_voteOfAllSets 8 d (some .long) post) (hdp : 2 ≤ d)
    (q1 : ((((1 : Int32) <<< ((σ.1 640) &&& 31)) - (1 : Int32)) < x4) → ¬ (0 : Int32) < 0)
    (q2 : ((((1 : Int32) <<< ((σ.1 640) &&& 31)) - (1 : Int32)) < x4) → ¬ (0 : Int32) < 0)
    (q3 : ((((1 : Int32) <<< ((σ.1 640) &&& 31)) - (1 : Int32)) < x4) → ¬ (9 : Int32) < 0)
    (q4 : ((((1 : Int32) <<< ((σ.1 640) &&& 31)) - (1 : Int32)) < x4) → ((0 : Int32)).toNatClampNeg + ((9 : Int32)).toNatClampNeg ≤ 9)
    (q5 : ((((1 : Int32) <<< ((σ.1 640) &&& 31)) - (1 : Int32)) < x4) → ((0 : Int32)).toNatClampNeg + ((9 : Int32)).toNatClampNeg ≤ 9)
    (k6 : ((((1 : Int32) <<< ((σ.1 640) &&& 31)) - (1 : Int32)) < x4) → post (some (.long x2)) (pG σ 33 (va_cpy (σ.2.2.2 34) (σ.2.2.2 33) ((0 : Int32)).toNatClampNeg ((0 : Int32)).toNatClampNeg ((9 : Int32)).toNatClampNeg)))
    (b7 : ¬ ((((1 : Int32) <<< ((σ.1 640) &&& 31)) - (1 : Int32)) < x4) → vp_in (F_bc x4) 9)
    (k8 : ¬ ((((1 : Int32) <<< ((σ.1 640) &&& 31)) - (1 : Int32)) < x4) → ((lg_cmp (σ.2.2.2 33 ((F_bc x4)).toNatClampNeg) (0 : Int64)) = 0) → V ω κ 13 [(0, .ref (ω.2.2.1 31)), (1, .int x1), (2, .long x2), (4, .int (x4 + 1))] [] σ)
    (b9 : ¬ ((((1 : Int32) <<< ((σ.1 640) &&& 31)) - (1 : Int32)) < x4) → ¬ ((lg_cmp (σ.2.2.2 33 ((F_bc x4)).toNatClampNeg) (0 : Int64)) = 0) → vp_in (F_bc x4) 9)
    (k10 : ¬ ((((1 : Int32) <<< ((σ.1 640) &&& 31)) - (1 : Int32)) < x4) → ¬ ((lg_cmp (σ.2.2.2 33 ((F_bc x4)).toNatClampNeg) (0 : Int64)) = 0) → ((σ.2.1 32 ((F_bc x4)).toNatClampNeg) = 0) → V ω κ 13 [(0, .ref (ω.2.2.1 31)), (1, .int x1), (2, .long x2), (4, .int (x4 + 1))] [] σ)
    (b11 : ¬ ((((1 : Int32) <<< ((σ.1 640) &&& 31)) - (1 : Int32)) < x4) → ¬ ((lg_cmp (σ.2.2.2 33 ((F_bc x4)).toNatClampNeg) (0 : Int64)) = 0) → ¬ ((σ.2.1 32 ((F_bc x4)).toNatClampNeg) = 0) → vp_in (F_bc x4) 9)
    (b12 : ¬ ((((1 : Int32) <<< ((σ.1 640) &&& 31)) - (1 : Int32)) < x4) → ¬ ((lg_cmp (σ.2.2.2 33 ((F_bc x4)).toNatClampNeg) (0 : Int64)) = 0) → ¬ ((σ.2.1 32 ((F_bc x4)).toNatClampNeg) = 0) → vp_in (F_bc x4) 9)
    (n13 : ¬ ((((1 : Int32) <<< ((σ.1 640) &&& 31)) - (1 : Int32)) < x4) → ¬ ((lg_cmp (σ.2.2.2 33 ((F_bc x4)).toNatClampNeg) (0 : Int64)) = 0) → ¬ ((σ.2.1 32 ((F_bc x4)).toNatClampNeg) = 0) → ¬ (σ.2.1 32 ((F_bc x4)).toNatClampNeg) = 0)
    (k14 : ¬ ((((1 : Int32) <<< ((σ.1 640) &&& 31)) - (1 : Int32)) < x4) → ¬ ((lg_cmp (σ.2.2.2 33 ((F_bc x4)).toNatClampNeg) (0 : Int64)) = 0) → ¬ ((σ.2.1 32 ((F_bc x4)).toNatClampNeg) = 0) → V ω κ 84 [(0, .ref (ω.2.2.1 31)), (1, .int x1), (2, .long x2), (4, .int x4), (6, .long ((σ.2.2.2 33 ((F_bc x4)).toNatClampNeg) * (((840 : Int32) / (σ.2.1 32 ((F_bc x4)).toNatClampNeg))).toInt64))] [.int (0 : Int32), .int x1, .int x4, .ref (ω.2.2.1 14)] σ) :
    V ω κ 13 [(0, .ref (ω.2.2.1 31)), (1, .int x1), (2, .long x2), (4, .int x4)] [] σ := by
  refine V_iload 3 K.1 dX3_voteOfAllSets_13 rfl ?_
  refine V_aload_n 0 K.1 dX3_voteOfAllSets_15 rfl rfl ?_
  refine V_get (v := .ref (ω.2.2.1 10)) K.1 dX3_voteOfAllSets_16 rfl rfl fw_X3_22 rfl rfl ?_
  refine V_callV (d' := d - 1) (As := []) K.1 dX3_voteOfAllSets_19 cw_X3_74 rfl rfl rfl (by omega) rfl (by simp [Value.category]) (m_X7_everybody K.1.wf (by omega)) (go_I ?_)
  refine V_icmp_gt (tgt := 131) K.1 dX3_voteOfAllSets_22 (by decide) (fun c22 => ?_) (fun c22 => ?_)
  · refine V_aload_n 0 K.1 dX3_voteOfAllSets_131 rfl rfl ?_
    refine V_get (v := .ref (ω.2.2.1 34)) K.1 dX3_voteOfAllSets_132 rfl rfl fw_X3_19 rfl rfl ?_
    refine V_iconst (v := 0) K.1 dX3_voteOfAllSets_135 (by decide) ?_
    refine V_aload_n 0 K.1 dX3_voteOfAllSets_136 rfl rfl ?_
    refine V_get (v := .ref (ω.2.2.1 33)) K.1 dX3_voteOfAllSets_137 rfl rfl fw_X3_15 rfl rfl ?_
    refine V_iconst (v := 0) K.1 dX3_voteOfAllSets_140 (by decide) ?_
    refine V_bipush (v := 9) K.1 dX3_voteOfAllSets_141 (by decide) ?_
    refine V_copyL K.1 dX3_voteOfAllSets_143 cp_X3_96 rfl rfl (q1 c22) (q2 c22) (q3 c22) (q4 c22) (q5 c22) (by omega) (by decide) ?_
    refine V_lload_n 2 K.1 dX3_voteOfAllSets_146 rfl rfl ?_
    exact V_lret K dX3_voteOfAllSets_147 (k6 c22)
  · refine V_iload 3 K.1 dX3_voteOfAllSets_25 rfl ?_
    refine V_callS (d' := d - 1) (As := [.int x4]) K.1 dX3_voteOfAllSets_27 cw_X3_78 rfl (by omega) rfl (by simp [Value.category]) (m_J6_bitCount_0f7a4 K.1.wf (by omega)) (go_I ?_)
    refine V_istore (L' := [(0, .ref (ω.2.2.1 31)), (1, .int x1), (2, .long x2), (4, .int x4), (5, .int (F_bc x4))]) K.1 dX3_voteOfAllSets_30 (by decide) rfl ?_
    refine V_aload_n 0 K.1 dX3_voteOfAllSets_32 rfl rfl ?_
    refine V_get (v := .ref (ω.2.2.1 33)) K.1 dX3_voteOfAllSets_33 rfl rfl fw_X3_15 rfl rfl ?_
    refine V_iload 4 K.1 dX3_voteOfAllSets_36 rfl ?_
    refine V_laload (v := (σ.2.2.2 33 ((F_bc x4)).toNatClampNeg)) K.1 dX3_voteOfAllSets_38 rfl (b7 c22) rfl ?_
    refine V_lconst (v := 0) K.1 dX3_voteOfAllSets_39 (by decide) ?_
    refine V_lcmp K.1 dX3_voteOfAllSets_40 ?_
    refine V_if_eq (tgt := 125) K.1 dX3_voteOfAllSets_41 (by decide) (fun c41 => ?_) (fun c41 => ?_)
    · refine V_iinc (v := (x4 + 1)) (L' := [(0, .ref (ω.2.2.1 31)), (1, .int x1), (2, .long x2), (4, .int (x4 + 1)), (5, .int (F_bc x4))]) 3 K.1 dX3_voteOfAllSets_125 rfl rfl (by decide) rfl ?_
      refine V_goto (tgt := 13) K.1 dX3_voteOfAllSets_128 (by decide) ?_
      exact V_sub [0, 1, 2, 3] rfl (k8 c22 c41)
    · refine V_aload_n 0 K.1 dX3_voteOfAllSets_44 rfl rfl ?_
      refine V_get (v := .ref (ω.2.2.1 32)) K.1 dX3_voteOfAllSets_45 rfl rfl fw_X3_9 rfl rfl ?_
      refine V_iload 4 K.1 dX3_voteOfAllSets_48 rfl ?_
      refine V_iaload (v := (σ.2.1 32 ((F_bc x4)).toNatClampNeg)) K.1 dX3_voteOfAllSets_50 rfl (b9 c22 c41) rfl ?_
      refine V_if_eq (tgt := 125) K.1 dX3_voteOfAllSets_51 (by decide) (fun c51 => ?_) (fun c51 => ?_)
      · refine V_iinc (v := (x4 + 1)) (L' := [(0, .ref (ω.2.2.1 31)), (1, .int x1), (2, .long x2), (4, .int (x4 + 1)), (5, .int (F_bc x4))]) 3 K.1 dX3_voteOfAllSets_125 rfl rfl (by decide) rfl ?_
        refine V_goto (tgt := 13) K.1 dX3_voteOfAllSets_128 (by decide) ?_
        exact V_sub [0, 1, 2, 3] rfl (k10 c22 c41 c51)
      · refine V_aload_n 0 K.1 dX3_voteOfAllSets_54 rfl rfl ?_
        refine V_get (v := .ref (ω.2.2.1 33)) K.1 dX3_voteOfAllSets_55 rfl rfl fw_X3_15 rfl rfl ?_
        refine V_iload 4 K.1 dX3_voteOfAllSets_58 rfl ?_
        refine V_laload (v := (σ.2.2.2 33 ((F_bc x4)).toNatClampNeg)) K.1 dX3_voteOfAllSets_60 rfl (b11 c22 c41 c51) rfl ?_
        refine V_sipush (v := 840) K.1 dX3_voteOfAllSets_61 (by decide) ?_
        refine V_aload_n 0 K.1 dX3_voteOfAllSets_64 rfl rfl ?_
        refine V_get (v := .ref (ω.2.2.1 32)) K.1 dX3_voteOfAllSets_65 rfl rfl fw_X3_9 rfl rfl ?_
        refine V_iload 4 K.1 dX3_voteOfAllSets_68 rfl ?_
        refine V_iaload (v := (σ.2.1 32 ((F_bc x4)).toNatClampNeg)) K.1 dX3_voteOfAllSets_70 rfl (b12 c22 c41 c51) rfl ?_
        refine V_idiv K.1 dX3_voteOfAllSets_71 (n13 c22 c41 c51) ?_
        refine V_i2l K.1 dX3_voteOfAllSets_72 ?_
        refine V_lmul K.1 dX3_voteOfAllSets_73 ?_
        refine V_lstore (L' := [(0, .ref (ω.2.2.1 31)), (1, .int x1), (2, .long x2), (4, .int x4), (5, .int (F_bc x4)), (6, .long ((σ.2.2.2 33 ((F_bc x4)).toNatClampNeg) * (((840 : Int32) / (σ.2.1 32 ((F_bc x4)).toNatClampNeg))).toInt64))]) K.1 dX3_voteOfAllSets_74 (by decide) rfl ?_
        refine V_aload_n 0 K.1 dX3_voteOfAllSets_76 rfl rfl ?_
        refine V_get (v := .ref (ω.2.2.1 14)) K.1 dX3_voteOfAllSets_77 rfl rfl fw_X3_26 rfl rfl ?_
        refine V_iload 3 K.1 dX3_voteOfAllSets_80 rfl ?_
        refine V_iload_n 1 K.1 dX3_voteOfAllSets_82 rfl rfl ?_
        refine V_iconst (v := 0) K.1 dX3_voteOfAllSets_83 (by decide) ?_
        exact V_sub [0, 1, 2, 3, 5] rfl (k14 c22 c41 c51)
set_option maxRecDepth 20000 in
theorem R_X3_voteOfAllSets_87 {ω : WT} {κ : KT} {l : Launch} {d : Nat} {post : Option Value → St → Prop} {σ : St} {x1 x4 s0 : Int32} {x2 x6 : Int64}  (K : Cm ω κ l yX3_voteOfAllSets cX3_voteOfAllSets 8 d (some .long) post)
    (b1 : vp_in (σ.1 901) 9)
    (b2 : vp_in (σ.1 901) 9)
    (k4 : V ω κ 13 [(0, .ref (ω.2.2.1 31)), (1, .int x1), (2, .long (x2 + (if ((σ.1 900) = (1 : Int32)) then x6 else (0 : Int64)))), (4, .int (x4 + 1))] [] (pM σ 34 ((σ.1 901)).toNatClampNeg ((σ.2.2.2 34 ((σ.1 901)).toNatClampNeg) + x6))) :
    V ω κ 87 [(0, .ref (ω.2.2.1 31)), (1, .int x1), (2, .long x2), (4, .int x4), (6, .long x6)] [.int s0] σ := by
  refine V_pop K.1 dX3_voteOfAllSets_87 rfl ?_
  refine V_aload_n 0 K.1 dX3_voteOfAllSets_88 rfl rfl ?_
  refine V_get (v := .ref (ω.2.2.1 34)) K.1 dX3_voteOfAllSets_89 rfl rfl fw_X3_19 rfl rfl ?_
  refine V_aload_n 0 K.1 dX3_voteOfAllSets_92 rfl rfl ?_
  refine V_get (v := .ref (ω.2.2.1 14)) K.1 dX3_voteOfAllSets_93 rfl rfl fw_X3_26 rfl rfl ?_
  refine V_get (v := .int (σ.1 901)) K.1 dX3_voteOfAllSets_96 rfl rfl fw_X3_90 rfl rfl ?_
  refine V_dup2 K.1 dX3_voteOfAllSets_99 rfl rfl ?_
  refine V_laload (v := (σ.2.2.2 34 ((σ.1 901)).toNatClampNeg)) K.1 dX3_voteOfAllSets_100 rfl b1 rfl ?_
  refine V_lload 4 K.1 dX3_voteOfAllSets_101 rfl ?_
  refine V_ladd K.1 dX3_voteOfAllSets_103 ?_
  refine V_lastore K.1 dX3_voteOfAllSets_104 rfl b2 ?_
  refine V_lload_n 2 K.1 dX3_voteOfAllSets_105 rfl rfl ?_
  refine V_aload_n 0 K.1 dX3_voteOfAllSets_106 rfl rfl ?_
  refine V_get (v := .ref (ω.2.2.1 14)) K.1 dX3_voteOfAllSets_107 rfl rfl fw_X3_26 rfl rfl ?_
  refine V_get (v := .int (σ.1 900)) K.1 dX3_voteOfAllSets_110 rfl rfl fw_X3_93 rfl rfl ?_
  refine V_iconst (v := 1) K.1 dX3_voteOfAllSets_113 (by decide) ?_
  refine V_join (J := 123) (S := [.long x2]) (v := .long (if ((σ.1 900) = (1 : Int32)) then x6 else (0 : Int64))) (fun hJ3 => ?_) ?_
  · refine V_icmp_ne (tgt := 122) K.1 dX3_voteOfAllSets_114 (by decide) (fun c114 => ?_) (fun c114 => ?_)
    · refine V_lconst (v := 0) K.1 dX3_voteOfAllSets_122 (by decide) ?_
      exact V_topJ (if_neg c114) hJ3
    · refine V_lload 4 K.1 dX3_voteOfAllSets_117 rfl ?_
      refine V_goto (tgt := 123) K.1 dX3_voteOfAllSets_119 (by decide) ?_
      exact V_topJ (if_pos c114) hJ3
  refine V_ladd K.1 dX3_voteOfAllSets_123 ?_
  refine V_lstore_n (L' := [(0, .ref (ω.2.2.1 31)), (1, .int x1), (2, .long (x2 + (if ((σ.1 900) = (1 : Int32)) then x6 else (0 : Int64)))), (4, .int x4), (6, .long x6)]) K.1 dX3_voteOfAllSets_124 rfl (by decide) rfl ?_
  refine V_iinc (v := (x4 + 1)) (L' := [(0, .ref (ω.2.2.1 31)), (1, .int x1), (2, .long (x2 + (if ((σ.1 900) = (1 : Int32)) then x6 else (0 : Int64)))), (4, .int (x4 + 1)), (6, .long x6)]) 3 K.1 dX3_voteOfAllSets_125 rfl rfl (by decide) rfl ?_
  refine V_goto (tgt := 13) K.1 dX3_voteOfAllSets_128 (by decide) ?_
  exact V_sub [0, 1, 2, 3] rfl k4
set_option maxRecDepth 20000 in
theorem C_X3_voteOfAllSets_84 {ω : WT} {κ : KT} {l : Launch} {d : Nat} {post : Option Value → St → Prop} {σ : St} {x1 x4 s1 s2 s3 : Int32} {x2 x6 : Int64}  {post' : Option Value → St → Prop} (K : Cm ω κ l yX3_voteOfAllSets cX3_voteOfAllSets 8 d (some .long) post) (hdp : 1 ≤ d) (hM : Sp ω l yX2_step cX2_step 7 (some .int) (d - 1) [.ref (ω.2.2.1 14), .int s1, .int s2, .int s3] σ post')
    (kk : ∀ (v : Option Value) (σ' : St), post' v σ' → V ω κ 87 [(0, .ref (ω.2.2.1 31)), (1, .int x1), (2, .long x2), (4, .int x4), (6, .long x6)] (v.toList ++ []) σ') : V ω κ 84 [(0, .ref (ω.2.2.1 31)), (1, .int x1), (2, .long x2), (4, .int x4), (6, .long x6)] [.int s3, .int s2, .int s1, .ref (ω.2.2.1 14)] σ := by
  exact V_callV (d' := d - 1) (As := [.int s1, .int s2, .int s3]) (rest := []) K.1 dX3_voteOfAllSets_84 cw_X3_84 rfl rfl rfl (by omega) rfl (by simp [Value.category]) hM (fun v σ' h => kk v σ' h)
set_option maxRecDepth 20000 in
theorem R_X3_drawAll_0 {ω : WT} {κ : KT} {l : Launch} {d : Nat} {post : Option Value → St → Prop} {σ : St}  (K : Cm ω κ l yX3_drawAll cX3_drawAll 7 d none post)
    (k1 : V ω κ 1 [(0, .ref (ω.2.2.1 31))] [.ref (ω.2.2.1 31)] σ) :
    V ω κ 0 [(0, .ref (ω.2.2.1 31))] [] σ := by
  refine V_aload_n 0 K.1 dX3_drawAll_0 rfl rfl ?_
  exact k1
set_option maxRecDepth 20000 in
theorem R_X3_drawAll_4 {ω : WT} {κ : KT} {l : Launch} {d : Nat} {post : Option Value → St → Prop} {σ : St}  (K : Cm ω κ l yX3_drawAll cX3_drawAll 7 d none post) (hdp : 1 ≤ d)
    (b1 : vp_in (σ.1 640) 9)
    (k2 : V ω κ 32 [(0, .ref (ω.2.2.1 31)), (1, .long (1 : Int64)), (3, .long (0 : Int64)), (5, .int (0 : Int32))] [] (pM (pG σ 33 (fillF (σ.2.2.2 33) (0 : Int64) 9)) 33 ((σ.1 640)).toNatClampNeg (1 : Int64))) :
    V ω κ 4 [(0, .ref (ω.2.2.1 31))] [] σ := by
  refine V_aload_n 0 K.1 dX3_drawAll_4 rfl rfl ?_
  refine V_get (v := .ref (ω.2.2.1 33)) K.1 dX3_drawAll_5 rfl rfl fw_X3_15 rfl rfl ?_
  refine V_lconst (v := 0) K.1 dX3_drawAll_8 (by decide) ?_
  refine V_callS (d' := d - 1) (As := [.ref (ω.2.2.1 33), .long (0 : Int64)]) K.1 dX3_drawAll_9 cw_X3_33 rfl (by omega) rfl (by simp [Value.category]) (m_J7_fill_d0a16 rfl K.1.wf (by omega)) (go_V ?_)
  refine V_aload_n 0 K.1 dX3_drawAll_12 rfl rfl ?_
  refine V_get (v := .ref (ω.2.2.1 33)) K.1 dX3_drawAll_13 rfl rfl fw_X3_15 rfl rfl ?_
  refine V_aload_n 0 K.1 dX3_drawAll_16 rfl rfl ?_
  refine V_get (v := .ref (ω.2.2.1 10)) K.1 dX3_drawAll_17 rfl rfl fw_X3_22 rfl rfl ?_
  refine V_get (v := .int (σ.1 640)) K.1 dX3_drawAll_20 rfl rfl fw_X3_39 rfl rfl ?_
  refine V_lconst (v := 1) K.1 dX3_drawAll_23 (by decide) ?_
  refine V_lastore K.1 dX3_drawAll_24 rfl b1 ?_
  refine V_lconst (v := 1) K.1 dX3_drawAll_25 (by decide) ?_
  refine V_lstore_n (L' := [(0, .ref (ω.2.2.1 31)), (1, .long (1 : Int64))]) K.1 dX3_drawAll_26 rfl (by decide) rfl ?_
  refine V_lconst (v := 0) K.1 dX3_drawAll_27 (by decide) ?_
  refine V_lstore_n (L' := [(0, .ref (ω.2.2.1 31)), (1, .long (1 : Int64)), (3, .long (0 : Int64))]) K.1 dX3_drawAll_28 rfl (by decide) rfl ?_
  refine V_iconst (v := 0) K.1 dX3_drawAll_29 (by decide) ?_
  refine V_istore (L' := [(0, .ref (ω.2.2.1 31)), (1, .long (1 : Int64)), (3, .long (0 : Int64)), (5, .int (0 : Int32))]) K.1 dX3_drawAll_30 (by decide) rfl ?_
  exact k2
set_option maxRecDepth 20000 in
theorem R_X3_drawAll_32 {ω : WT} {κ : KT} {l : Launch} {d : Nat} {post : Option Value → St → Prop} {σ : St} {x5 : Int32} {x1 x3 : Int64}  (K : Cm ω κ l yX3_drawAll cX3_drawAll 7 d none post)
    (k1 : ((σ.1 644) ≤ x5) → V ω κ 81 [(0, .ref (ω.2.2.1 31)), (1, .long x1), (3, .long x3)] [.long x3, .long x1] σ)
    (b2 : ¬ ((σ.1 644) ≤ x5) → vp_in x5 6)
    (b3 : ¬ ((σ.1 644) ≤ x5) → vp_in (σ.2.1 13 (x5).toNatClampNeg) 6)
    (k4 : ¬ ((σ.1 644) ≤ x5) → V ω κ 63 [(0, .ref (ω.2.2.1 31)), (1, .long x1), (5, .int x5)] [.int (σ.2.1 12 ((σ.2.1 13 (x5).toNatClampNeg)).toNatClampNeg), .ref (ω.2.2.1 31)] σ) :
    V ω κ 32 [(0, .ref (ω.2.2.1 31)), (1, .long x1), (3, .long x3), (5, .int x5)] [] σ := by
  refine V_iload 3 K.1 dX3_drawAll_32 rfl ?_
  refine V_aload_n 0 K.1 dX3_drawAll_34 rfl rfl ?_
  refine V_get (v := .ref (ω.2.2.1 10)) K.1 dX3_drawAll_35 rfl rfl fw_X3_22 rfl rfl ?_
  refine V_get (v := .int (σ.1 644)) K.1 dX3_drawAll_38 rfl rfl fw_X3_45 rfl rfl ?_
  refine V_icmp_ge (tgt := 79) K.1 dX3_drawAll_41 (by decide) (fun c41 => ?_) (fun c41 => ?_)
  · refine V_lload_n 1 K.1 dX3_drawAll_79 rfl rfl ?_
    refine V_lload_n 2 K.1 dX3_drawAll_80 rfl rfl ?_
    exact V_sub [0, 1, 2] rfl (k1 c41)
  · refine V_aload_n 0 K.1 dX3_drawAll_44 rfl rfl ?_
    refine V_aload_n 0 K.1 dX3_drawAll_45 rfl rfl ?_
    refine V_get (v := .ref (ω.2.2.1 10)) K.1 dX3_drawAll_46 rfl rfl fw_X3_22 rfl rfl ?_
    refine V_get (v := .ref (ω.2.2.1 12)) K.1 dX3_drawAll_49 rfl rfl fw_X3_48 rfl rfl ?_
    refine V_aload_n 0 K.1 dX3_drawAll_52 rfl rfl ?_
    refine V_get (v := .ref (ω.2.2.1 10)) K.1 dX3_drawAll_53 rfl rfl fw_X3_22 rfl rfl ?_
    refine V_get (v := .ref (ω.2.2.1 13)) K.1 dX3_drawAll_56 rfl rfl fw_X3_51 rfl rfl ?_
    refine V_iload 3 K.1 dX3_drawAll_59 rfl ?_
    refine V_iaload (v := (σ.2.1 13 (x5).toNatClampNeg)) K.1 dX3_drawAll_61 rfl (b2 c41) rfl ?_
    refine V_iaload (v := (σ.2.1 12 ((σ.2.1 13 (x5).toNatClampNeg)).toNatClampNeg)) K.1 dX3_drawAll_62 rfl (b3 c41) rfl ?_
    exact V_sub [0, 1, 3] rfl (k4 c41)
set_option maxRecDepth 20000 in
theorem R_X3_drawAll_66 {ω : WT} {κ : KT} {l : Launch} {d : Nat} {post : Option Value → St → Prop} {σ : St} {x5 : Int32} {x1 s0 : Int64}  (K : Cm ω κ l yX3_drawAll cX3_drawAll 7 d none post)
    (k1 : V ω κ 32 [(0, .ref (ω.2.2.1 31)), (1, .long (x1 * (840 : Int64))), (3, .long s0), (5, .int (x5 + 1))] [] σ) :
    V ω κ 66 [(0, .ref (ω.2.2.1 31)), (1, .long x1), (5, .int x5)] [.long s0] σ := by
  refine V_lstore_n (L' := [(0, .ref (ω.2.2.1 31)), (1, .long x1), (3, .long s0), (5, .int x5)]) K.1 dX3_drawAll_66 rfl (by decide) rfl ?_
  refine V_lload_n 1 K.1 dX3_drawAll_67 rfl rfl ?_
  refine V_ldc2_w K.1 dX3_drawAll_68 cn_X3_58 ?_
  refine V_lmul K.1 dX3_drawAll_71 ?_
  refine V_lstore_n (L' := [(0, .ref (ω.2.2.1 31)), (1, .long (x1 * (840 : Int64))), (3, .long s0), (5, .int x5)]) K.1 dX3_drawAll_72 rfl (by decide) rfl ?_
  refine V_iinc (v := (x5 + 1)) (L' := [(0, .ref (ω.2.2.1 31)), (1, .long (x1 * (840 : Int64))), (3, .long s0), (5, .int (x5 + 1))]) 3 K.1 dX3_drawAll_73 rfl rfl (by decide) rfl ?_
  refine V_goto (tgt := 32) K.1 dX3_drawAll_76 (by decide) ?_
  exact k1
set_option maxRecDepth 20000 in
theorem R_X3_drawAll_84 {ω : WT} {κ : KT} {l : Launch} {d : Nat} {post : Option Value → St → Prop} {σ : St} {x1 x3 s0 : Int64}  (K : Cm ω κ l yX3_drawAll cX3_drawAll 7 d none post)
    (n2 : ¬ ((lg_cmp s0 (0 : Int64)) = 0) → ¬ s0 = 0)
    (n4 : ¬ ((lg_cmp s0 (0 : Int64)) = 0) → ¬ s0 = 0)
    (k5 : post none (pL (pL σ 1989 (if ((lg_cmp s0 (0 : Int64)) = 0) then x3 else (x3 / s0))) 1990 (if ((lg_cmp s0 (0 : Int64)) = 0) then x1 else (x1 / s0)))) :
    V ω κ 84 [(0, .ref (ω.2.2.1 31)), (1, .long x1), (3, .long x3)] [.long s0] σ := by
  refine V_lstore (L' := [(0, .ref (ω.2.2.1 31)), (1, .long x1), (3, .long x3), (5, .long s0)]) K.1 dX3_drawAll_84 (by decide) rfl ?_
  refine V_aload_n 0 K.1 dX3_drawAll_86 rfl rfl ?_
  refine V_lload 3 K.1 dX3_drawAll_87 rfl ?_
  refine V_lconst (v := 0) K.1 dX3_drawAll_89 (by decide) ?_
  refine V_lcmp K.1 dX3_drawAll_90 ?_
  refine V_join (J := 102) (S := [.ref (ω.2.2.1 31)]) (v := .long (if ((lg_cmp s0 (0 : Int64)) = 0) then x3 else (x3 / s0))) (fun hJ1 => ?_) ?_
  · refine V_if_ne (tgt := 98) K.1 dX3_drawAll_91 (by decide) (fun c91 => ?_) (fun c91 => ?_)
    · refine V_lload_n 2 K.1 dX3_drawAll_98 rfl rfl ?_
      refine V_lload 3 K.1 dX3_drawAll_99 rfl ?_
      refine V_ldiv K.1 dX3_drawAll_101 (n2 c91) ?_
      exact V_topJ (if_neg c91) hJ1
    · refine V_lload_n 2 K.1 dX3_drawAll_94 rfl rfl ?_
      refine V_goto (tgt := 102) K.1 dX3_drawAll_95 (by decide) ?_
      exact V_topJ (if_pos c91) hJ1
  refine V_putL (key := 1989) K.1 dX3_drawAll_102 rfl rfl fw_X3_64 pw_X3_5 rfl rfl rfl rfl ?_
  refine V_aload_n 0 K.1 dX3_drawAll_105 rfl rfl ?_
  refine V_lload 3 K.1 dX3_drawAll_106 rfl ?_
  refine V_lconst (v := 0) K.1 dX3_drawAll_108 (by decide) ?_
  refine V_lcmp K.1 dX3_drawAll_109 ?_
  refine V_join (J := 121) (S := [.ref (ω.2.2.1 31)]) (v := .long (if ((lg_cmp s0 (0 : Int64)) = 0) then x1 else (x1 / s0))) (fun hJ3 => ?_) ?_
  · refine V_if_ne (tgt := 117) K.1 dX3_drawAll_110 (by decide) (fun c110 => ?_) (fun c110 => ?_)
    · refine V_lload_n 1 K.1 dX3_drawAll_117 rfl rfl ?_
      refine V_lload 3 K.1 dX3_drawAll_118 rfl ?_
      refine V_ldiv K.1 dX3_drawAll_120 (n4 c110) ?_
      exact V_topJ (if_neg c110) hJ3
    · refine V_lload_n 1 K.1 dX3_drawAll_113 rfl rfl ?_
      refine V_goto (tgt := 121) K.1 dX3_drawAll_114 (by decide) ?_
      exact V_topJ (if_pos c110) hJ3
  refine V_putL (key := 1990) K.1 dX3_drawAll_121 rfl rfl fw_X3_68 pw_X3_6 rfl rfl rfl rfl ?_
  exact V_vret K dX3_drawAll_124 k5
set_option maxRecDepth 20000 in
theorem C_X3_drawAll_1 {ω : WT} {κ : KT} {l : Launch} {d : Nat} {post : Option Value → St → Prop} {σ : St}  {post' : Option Value → St → Prop} (K : Cm ω κ l yX3_drawAll cX3_drawAll 7 d none post) (hdp : 1 ≤ d) (hM : Sp ω l yX3_countSets cX3_countSets 3 none (d - 1) [.ref (ω.2.2.1 31)] σ post')
    (kk : ∀ (v : Option Value) (σ' : St), post' v σ' → V ω κ 4 [(0, .ref (ω.2.2.1 31))] (v.toList ++ []) σ') : V ω κ 1 [(0, .ref (ω.2.2.1 31))] [.ref (ω.2.2.1 31)] σ := by
  exact V_callV (d' := d - 1) (As := []) (rest := []) K.1 dX3_drawAll_1 cw_X3_30 rfl rfl rfl (by omega) rfl (by simp [Value.category]) hM (fun v σ' h => kk v σ' h)
set_option maxRecDepth 20000 in
theorem C_X3_drawAll_63 {ω : WT} {κ : KT} {l : Launch} {d : Nat} {post : Option Value → St → Prop} {σ : St} {x5 s1 : Int32} {x1 : Int64}  {post' : Option Value → St → Prop} (K : Cm ω κ l yX3_drawAll cX3_drawAll 7 d none post) (hdp : 1 ≤ d) (hM : Sp ω l yX3_voteOfAllSets cX3_voteOfAllSets 8 (some .long) (d - 1) [.ref (ω.2.2.1 31), .int s1] σ post')
    (kk : ∀ (v : Option Value) (σ' : St), post' v σ' → V ω κ 66 [(0, .ref (ω.2.2.1 31)), (1, .long x1), (5, .int x5)] (v.toList ++ []) σ') : V ω κ 63 [(0, .ref (ω.2.2.1 31)), (1, .long x1), (5, .int x5)] [.int s1, .ref (ω.2.2.1 31)] σ := by
  exact V_callV (d' := d - 1) (As := [.int s1]) (rest := []) K.1 dX3_drawAll_63 cw_X3_54 rfl rfl rfl (by omega) rfl (by simp [Value.category]) hM (fun v σ' h => kk v σ' h)
set_option maxRecDepth 20000 in
theorem C_X3_drawAll_81 {ω : WT} {κ : KT} {l : Launch} {d : Nat} {post : Option Value → St → Prop} {σ : St} {x1 x3 s0 s1 : Int64}  {post' : Option Value → St → Prop} (K : Cm ω κ l yX3_drawAll cX3_drawAll 7 d none post) (hdp : 1 ≤ d) (hM : Sp ω l yX3_commonDivisor cX3_commonDivisor 7 (some .long) (d - 1) [.long s0, .long s1] σ post')
    (kk : ∀ (v : Option Value) (σ' : St), post' v σ' → V ω κ 84 [(0, .ref (ω.2.2.1 31)), (1, .long x1), (3, .long x3)] (v.toList ++ []) σ') : V ω κ 81 [(0, .ref (ω.2.2.1 31)), (1, .long x1), (3, .long x3)] [.long s1, .long s0] σ := by
  exact V_callS (d' := d - 1) (As := [.long s0, .long s1]) (rest := []) K.1 dX3_drawAll_81 cw_X3_60 rfl (by omega) rfl (by simp [Value.category]) hM (fun v σ' h => kk v σ' h)
set_option maxRecDepth 20000 in
theorem R_X8_lot_0 {ω : WT} {κ : KT} {l : Launch} {d : Nat} {post : Option Value → St → Prop} {σ : St} {x1 : Int32}  (K : Cm ω κ l yX8_lot cX8_lot 2 d (some .long) post) (hdp : 2 ≤ d)
    (k1 : (x1 < 0) → post (some (.long (-9223372036854775808 : Int64))) σ)
    (k2 : ¬ (x1 < 0) → ((1 : Int32) < x1) → post (some (.long (-9223372036854775808 : Int64))) σ)
    (k3 : ¬ (x1 < 0) → ¬ ((1 : Int32) < x1) → ¬ ((if ((σ.1 640) ≤ 0) then (0 : Int32) else (1 : Int32)) = 0) → V ω κ 34 [(0, .ref (ω.2.2.1 0)), (1, .int x1)] [.ref (ω.2.2.1 31)] (pS (pS σ 897 (σ.1 642)) 898 (σ.1 643)))
    (k4 : ¬ (x1 < 0) → ¬ ((1 : Int32) < x1) → ((if ((σ.1 640) ≤ 0) then (0 : Int32) else (1 : Int32)) = 0) → post (some (.long (-9223372036854775808 : Int64))) σ) :
    V ω κ 0 [(0, .ref (ω.2.2.1 0)), (1, .int x1)] [] σ := by
  refine V_iload_n 1 K.1 dX8_lot_0 rfl rfl ?_
  refine V_if_lt (tgt := 19) K.1 dX8_lot_1 (by decide) (fun c1 => ?_) (fun c1 => ?_)
  · refine V_ldc2_w K.1 dX8_lot_19 cn_X8_194 ?_
    exact V_lret K dX8_lot_22 (k1 c1)
  · refine V_iload_n 1 K.1 dX8_lot_4 rfl rfl ?_
    refine V_iconst (v := 1) K.1 dX8_lot_5 (by decide) ?_
    refine V_icmp_gt (tgt := 19) K.1 dX8_lot_6 (by decide) (fun c6 => ?_) (fun c6 => ?_)
    · refine V_ldc2_w K.1 dX8_lot_19 cn_X8_194 ?_
      exact V_lret K dX8_lot_22 (k2 c1 c6)
    · refine V_aload_n 0 K.1 dX8_lot_9 rfl rfl ?_
      refine V_get (v := .ref (ω.2.2.1 10)) K.1 dX8_lot_10 rfl rfl fw_X8_21 rfl rfl ?_
      refine V_callV (d' := d - 1) (As := []) K.1 dX8_lot_13 cw_X8_107 rfl rfl rfl (by omega) rfl (by simp [Value.category]) (m_X7_stands K.1.wf (by omega)) (go_I ?_)
      refine V_if_ne (tgt := 23) K.1 dX8_lot_16 (by decide) (fun c16 => ?_) (fun c16 => ?_)
      · refine V_aload_n 0 K.1 dX8_lot_23 rfl rfl ?_
        refine V_get (v := .ref (ω.2.2.1 14)) K.1 dX8_lot_24 rfl rfl fw_X8_30 rfl rfl ?_
        refine V_callV (d' := d - 1) (As := []) K.1 dX8_lot_27 cw_X8_149 rfl rfl rfl (by omega) rfl (by simp [Value.category]) (m_X2_useOwnRules K.1.wf (by omega)) (go_V ?_)
        refine V_aload_n 0 K.1 dX8_lot_30 rfl rfl ?_
        refine V_get (v := .ref (ω.2.2.1 31)) K.1 dX8_lot_31 rfl rfl fw_X8_69 rfl rfl ?_
        exact (k3 c1 c6 c16)
      · refine V_ldc2_w K.1 dX8_lot_19 cn_X8_194 ?_
        exact V_lret K dX8_lot_22 (k4 c1 c6 c16)
set_option maxRecDepth 20000 in
theorem R_X8_lot_37 {ω : WT} {κ : KT} {l : Launch} {d : Nat} {post : Option Value → St → Prop} {σ : St} {x1 : Int32}  (K : Cm ω κ l yX8_lot cX8_lot 2 d (some .long) post)
    (k2 : post (some (.long (if (x1 = 0) then (σ.2.2.1 1989) else (σ.2.2.1 1990)))) σ) :
    V ω κ 37 [(0, .ref (ω.2.2.1 0)), (1, .int x1)] [] σ := by
  refine V_iload_n 1 K.1 dX8_lot_37 rfl rfl ?_
  refine V_join (J := 58) (S := []) (v := .long (if (x1 = 0) then (σ.2.2.1 1989) else (σ.2.2.1 1990))) (fun hJ1 => ?_) ?_
  · refine V_if_ne (tgt := 51) K.1 dX8_lot_38 (by decide) (fun c38 => ?_) (fun c38 => ?_)
    · refine V_aload_n 0 K.1 dX8_lot_51 rfl rfl ?_
      refine V_get (v := .ref (ω.2.2.1 31)) K.1 dX8_lot_52 rfl rfl fw_X8_69 rfl rfl ?_
      refine V_get (v := .long (σ.2.2.1 1990)) K.1 dX8_lot_55 rfl rfl fw_X8_203 rfl rfl ?_
      exact V_topJ (if_neg c38) hJ1
    · refine V_aload_n 0 K.1 dX8_lot_41 rfl rfl ?_
      refine V_get (v := .ref (ω.2.2.1 31)) K.1 dX8_lot_42 rfl rfl fw_X8_69 rfl rfl ?_
      refine V_get (v := .long (σ.2.2.1 1989)) K.1 dX8_lot_45 rfl rfl fw_X8_199 rfl rfl ?_
      refine V_goto (tgt := 58) K.1 dX8_lot_48 (by decide) ?_
      exact V_topJ (if_pos c38) hJ1
  exact V_lret K dX8_lot_58 k2
set_option maxRecDepth 20000 in
theorem C_X8_lot_34 {ω : WT} {κ : KT} {l : Launch} {d : Nat} {post : Option Value → St → Prop} {σ : St} {x1 : Int32}  {post' : Option Value → St → Prop} (K : Cm ω κ l yX8_lot cX8_lot 2 d (some .long) post) (hdp : 1 ≤ d) (hM : Sp ω l yX3_drawAll cX3_drawAll 7 none (d - 1) [.ref (ω.2.2.1 31)] σ post')
    (kk : ∀ (v : Option Value) (σ' : St), post' v σ' → V ω κ 37 [(0, .ref (ω.2.2.1 0)), (1, .int x1)] (v.toList ++ []) σ') : V ω κ 34 [(0, .ref (ω.2.2.1 0)), (1, .int x1)] [.ref (ω.2.2.1 31)] σ := by
  exact V_callV (d' := d - 1) (As := []) (rest := []) K.1 dX8_lot_34 cw_X8_196 rfl rfl rfl (by omega) rfl (by simp [Value.category]) hM (fun v σ' h => kk v σ' h)
set_option maxRecDepth 20000 in
theorem R_X9_share_0 {ω : WT} {κ : KT} {l : Launch} {d : Nat} {post : Option Value → St → Prop} {σ : St} {x4 : Int32} {x0 x2 : Int64}  (K : Cm ω κ l yX9_share cX9_share 11 d (some .long) post)
    (k1 : V ω κ 6 [(0, .long x0), (2, .long x2), (4, .int x4), (5, .long x0), (7, .long x2)] [] σ) :
    V ω κ 0 [(0, .long x0), (2, .long x2), (4, .int x4)] [] σ := by
  refine V_lload_n 0 K.1 dX9_share_0 rfl rfl ?_
  refine V_lstore (L' := [(0, .long x0), (2, .long x2), (4, .int x4), (5, .long x0)]) K.1 dX9_share_1 (by decide) rfl ?_
  refine V_lload_n 1 K.1 dX9_share_3 rfl rfl ?_
  refine V_lstore (L' := [(0, .long x0), (2, .long x2), (4, .int x4), (5, .long x0), (7, .long x2)]) K.1 dX9_share_4 (by decide) rfl ?_
  exact k1
set_option maxRecDepth 20000 in
theorem R_X9_share_6 {ω : WT} {κ : KT} {l : Launch} {d : Nat} {post : Option Value → St → Prop} {σ : St} {x4 : Int32} {x0 x2 x5 x7 : Int64}  (K : Cm ω κ l yX9_share cX9_share 11 d (some .long) post)
    (n2 : ((lg_cmp x7 (0 : Int64)) = 0) → ¬ (x4 = 0) → ¬ x5 = 0)
    (n3 : ((lg_cmp x7 (0 : Int64)) = 0) → (x4 = 0) → ¬ x5 = 0)
    (k4 : ((lg_cmp x7 (0 : Int64)) = 0) → post (some (.long (if (x4 = 0) then (x0 / x5) else (x2 / x5)))) σ)
    (n5 : ¬ ((lg_cmp x7 (0 : Int64)) = 0) → ¬ x7 = 0)
    (k6 : ¬ ((lg_cmp x7 (0 : Int64)) = 0) → V ω κ 6 [(0, .long x0), (2, .long x2), (4, .int x4), (5, .long x7), (7, .long (x5 - x5 / x7 * x7))] [] σ) :
    V ω κ 6 [(0, .long x0), (2, .long x2), (4, .int x4), (5, .long x5), (7, .long x7)] [] σ := by
  refine V_lload 4 K.1 dX9_share_6 rfl ?_
  refine V_lconst (v := 0) K.1 dX9_share_8 (by decide) ?_
  refine V_lcmp K.1 dX9_share_9 ?_
  refine V_if_eq (tgt := 31) K.1 dX9_share_10 (by decide) (fun c10 => ?_) (fun c10 => ?_)
  · refine V_iload 2 K.1 dX9_share_31 rfl ?_
    refine V_join (J := 47) (S := []) (v := .long (if (x4 = 0) then (x0 / x5) else (x2 / x5))) (fun hJ1 => ?_) ?_
    · refine V_if_ne (tgt := 43) K.1 dX9_share_33 (by decide) (fun c33 => ?_) (fun c33 => ?_)
      · refine V_lload_n 1 K.1 dX9_share_43 rfl rfl ?_
        refine V_lload 3 K.1 dX9_share_44 rfl ?_
        refine V_ldiv K.1 dX9_share_46 (n2 c10 c33) ?_
        exact V_topJ (if_neg c33) hJ1
      · refine V_lload_n 0 K.1 dX9_share_36 rfl rfl ?_
        refine V_lload 3 K.1 dX9_share_37 rfl ?_
        refine V_ldiv K.1 dX9_share_39 (n3 c10 c33) ?_
        refine V_goto (tgt := 47) K.1 dX9_share_40 (by decide) ?_
        exact V_topJ (if_pos c33) hJ1
    exact V_lret K dX9_share_47 (k4 c10)
  · refine V_lload 3 K.1 dX9_share_13 rfl ?_
    refine V_lload 4 K.1 dX9_share_15 rfl ?_
    refine V_lrem K.1 dX9_share_17 (n5 c10) ?_
    refine V_lstore (L' := [(0, .long x0), (2, .long x2), (4, .int x4), (5, .long x5), (7, .long x7), (9, .long (x5 - x5 / x7 * x7))]) K.1 dX9_share_18 (by decide) rfl ?_
    refine V_lload 4 K.1 dX9_share_20 rfl ?_
    refine V_lstore (L' := [(0, .long x0), (2, .long x2), (4, .int x4), (5, .long x7), (7, .long x7), (9, .long (x5 - x5 / x7 * x7))]) K.1 dX9_share_22 (by decide) rfl ?_
    refine V_lload 5 K.1 dX9_share_24 rfl ?_
    refine V_lstore (L' := [(0, .long x0), (2, .long x2), (4, .int x4), (5, .long x7), (7, .long (x5 - x5 / x7 * x7)), (9, .long (x5 - x5 / x7 * x7))]) K.1 dX9_share_26 (by decide) rfl ?_
    refine V_goto (tgt := 6) K.1 dX9_share_28 (by decide) ?_
    exact V_sub [0, 1, 2, 3, 4] rfl (k6 c10)
set_option maxRecDepth 20000 in
theorem R_X9_choose_0 {ω : WT} {κ : KT} {l : Launch} {d : Nat} {post : Option Value → St → Prop} {σ : St} {x0 x1 : Int32}  (K : Cm ω κ l yX9_choose cX9_choose 5 d (some .long) post)
    (k1 : V ω κ 5 [(0, .int x0), (1, .int x1), (2, .long (1 : Int64)), (4, .int (1 : Int32))] [] σ) :
    V ω κ 0 [(0, .int x0), (1, .int x1)] [] σ := by
  refine V_lconst (v := 1) K.1 dX9_choose_0 (by decide) ?_
  refine V_lstore_n (L' := [(0, .int x0), (1, .int x1), (2, .long (1 : Int64))]) K.1 dX9_choose_1 rfl (by decide) rfl ?_
  refine V_iconst (v := 1) K.1 dX9_choose_2 (by decide) ?_
  refine V_istore (L' := [(0, .int x0), (1, .int x1), (2, .long (1 : Int64)), (4, .int (1 : Int32))]) K.1 dX9_choose_3 (by decide) rfl ?_
  exact k1
set_option maxRecDepth 20000 in
theorem R_X9_choose_5 {ω : WT} {κ : KT} {l : Launch} {d : Nat} {post : Option Value → St → Prop} {σ : St} {x0 x1 x4 : Int32} {x2 : Int64}  (K : Cm ω κ l yX9_choose cX9_choose 5 d (some .long) post)
    (k1 : (x1 < x4) → post (some (.long x2)) σ)
    (n2 : ¬ (x1 < x4) → ¬ (x4).toInt64 = 0)
    (k3 : ¬ (x1 < x4) → V ω κ 5 [(0, .int x0), (1, .int x1), (2, .long ((x2 * (((x0 - x1) + x4)).toInt64) / (x4).toInt64)), (4, .int (x4 + 1))] [] σ) :
    V ω κ 5 [(0, .int x0), (1, .int x1), (2, .long x2), (4, .int x4)] [] σ := by
  refine V_iload 3 K.1 dX9_choose_5 rfl ?_
  refine V_iload_n 1 K.1 dX9_choose_7 rfl rfl ?_
  refine V_icmp_gt (tgt := 31) K.1 dX9_choose_8 (by decide) (fun c8 => ?_) (fun c8 => ?_)
  · refine V_lload_n 2 K.1 dX9_choose_31 rfl rfl ?_
    exact V_lret K dX9_choose_32 (k1 c8)
  · refine V_lload_n 2 K.1 dX9_choose_11 rfl rfl ?_
    refine V_iload_n 0 K.1 dX9_choose_12 rfl rfl ?_
    refine V_iload_n 1 K.1 dX9_choose_13 rfl rfl ?_
    refine V_isub K.1 dX9_choose_14 ?_
    refine V_iload 3 K.1 dX9_choose_15 rfl ?_
    refine V_iadd K.1 dX9_choose_17 ?_
    refine V_i2l K.1 dX9_choose_18 ?_
    refine V_lmul K.1 dX9_choose_19 ?_
    refine V_iload 3 K.1 dX9_choose_20 rfl ?_
    refine V_i2l K.1 dX9_choose_22 ?_
    refine V_ldiv K.1 dX9_choose_23 (n2 c8) ?_
    refine V_lstore_n (L' := [(0, .int x0), (1, .int x1), (2, .long ((x2 * (((x0 - x1) + x4)).toInt64) / (x4).toInt64)), (4, .int x4)]) K.1 dX9_choose_24 rfl (by decide) rfl ?_
    refine V_iinc (v := (x4 + 1)) (L' := [(0, .int x0), (1, .int x1), (2, .long ((x2 * (((x0 - x1) + x4)).toInt64) / (x4).toInt64)), (4, .int (x4 + 1))]) 3 K.1 dX9_choose_25 rfl rfl (by decide) rfl ?_
    refine V_goto (tgt := 5) K.1 dX9_choose_28 (by decide) ?_
    exact (k3 c8)
set_option maxRecDepth 20000 in
theorem R_X9_allWays_0 {ω : WT} {κ : KT} {l : Launch} {d : Nat} {post : Option Value → St → Prop} {σ : St}  (K : Cm ω κ l yX9_allWays cX9_allWays 6 d (some .long) post)
    (k1 : V ω κ 4 [(0, .ref (ω.2.2.1 35)), (1, .long (1 : Int64)), (3, .int (1 : Int32))] [] σ) :
    V ω κ 0 [(0, .ref (ω.2.2.1 35))] [] σ := by
  refine V_lconst (v := 1) K.1 dX9_allWays_0 (by decide) ?_
  refine V_lstore_n (L' := [(0, .ref (ω.2.2.1 35)), (1, .long (1 : Int64))]) K.1 dX9_allWays_1 rfl (by decide) rfl ?_
  refine V_iconst (v := 1) K.1 dX9_allWays_2 (by decide) ?_
  refine V_istore_n (L' := [(0, .ref (ω.2.2.1 35)), (1, .long (1 : Int64)), (3, .int (1 : Int32))]) K.1 dX9_allWays_3 rfl (by decide) rfl ?_
  exact k1
set_option maxRecDepth 20000 in
theorem R_X9_allWays_4 {ω : WT} {κ : KT} {l : Launch} {d : Nat} {post : Option Value → St → Prop} {σ : St} {x3 : Int32} {x1 : Int64}  (K : Cm ω κ l yX9_allWays cX9_allWays 6 d (some .long) post)
    (k1 : ((σ.1 2245) < x3) → post (some (.long x1)) σ)
    (k2 : ¬ ((σ.1 2245) < x3) → V ω κ 17 [(0, .ref (ω.2.2.1 35)), (1, .long x1), (3, .int x3)] [.int x3, .int (σ.1 2245)] σ) :
    V ω κ 4 [(0, .ref (ω.2.2.1 35)), (1, .long x1), (3, .int x3)] [] σ := by
  refine V_iload_n 2 K.1 dX9_allWays_4 rfl rfl ?_
  refine V_aload_n 0 K.1 dX9_allWays_5 rfl rfl ?_
  refine V_get (v := .int (σ.1 2245)) K.1 dX9_allWays_6 rfl rfl fw_X9_91 rfl rfl ?_
  refine V_icmp_gt (tgt := 35) K.1 dX9_allWays_9 (by decide) (fun c9 => ?_) (fun c9 => ?_)
  · refine V_lload_n 1 K.1 dX9_allWays_35 rfl rfl ?_
    exact V_lret K dX9_allWays_36 (k1 c9)
  · refine V_aload_n 0 K.1 dX9_allWays_12 rfl rfl ?_
    refine V_get (v := .int (σ.1 2245)) K.1 dX9_allWays_13 rfl rfl fw_X9_91 rfl rfl ?_
    refine V_iload_n 2 K.1 dX9_allWays_16 rfl rfl ?_
    exact (k2 c9)
set_option maxRecDepth 20000 in
theorem R_X9_allWays_20 {ω : WT} {κ : KT} {l : Launch} {d : Nat} {post : Option Value → St → Prop} {σ : St} {x3 : Int32} {x1 s0 : Int64}  (K : Cm ω κ l yX9_allWays cX9_allWays 6 d (some .long) post)
    (k1 : V ω κ 25 [(0, .ref (ω.2.2.1 35)), (3, .int x3)] [.long s0, .long x1] σ) :
    V ω κ 20 [(0, .ref (ω.2.2.1 35)), (1, .long x1), (3, .int x3)] [.long s0] σ := by
  refine V_lstore (L' := [(0, .ref (ω.2.2.1 35)), (1, .long x1), (3, .int x3), (4, .long s0)]) K.1 dX9_allWays_20 (by decide) rfl ?_
  refine V_lload_n 1 K.1 dX9_allWays_22 rfl rfl ?_
  refine V_lload 3 K.1 dX9_allWays_23 rfl ?_
  exact V_sub [0, 2] rfl k1
set_option maxRecDepth 20000 in
theorem R_X9_allWays_28 {ω : WT} {κ : KT} {l : Launch} {d : Nat} {post : Option Value → St → Prop} {σ : St} {x3 : Int32} {s0 : Int64}  (K : Cm ω κ l yX9_allWays cX9_allWays 6 d (some .long) post)
    (k1 : V ω κ 4 [(0, .ref (ω.2.2.1 35)), (1, .long s0), (3, .int (x3 + 1))] [] σ) :
    V ω κ 28 [(0, .ref (ω.2.2.1 35)), (3, .int x3)] [.long s0] σ := by
  refine V_lstore_n (L' := [(0, .ref (ω.2.2.1 35)), (1, .long s0), (3, .int x3)]) K.1 dX9_allWays_28 rfl (by decide) rfl ?_
  refine V_iinc (v := (x3 + 1)) (L' := [(0, .ref (ω.2.2.1 35)), (1, .long s0), (3, .int (x3 + 1))]) 2 K.1 dX9_allWays_29 rfl rfl (by decide) rfl ?_
  refine V_goto (tgt := 4) K.1 dX9_allWays_32 (by decide) ?_
  exact k1
set_option maxRecDepth 20000 in
theorem C_X9_allWays_17 {ω : WT} {κ : KT} {l : Launch} {d : Nat} {post : Option Value → St → Prop} {σ : St} {x3 s0 s1 : Int32} {x1 : Int64}  {post' : Option Value → St → Prop} (K : Cm ω κ l yX9_allWays cX9_allWays 6 d (some .long) post) (hdp : 1 ≤ d) (hM : Sp ω l yX9_choose cX9_choose 5 (some .long) (d - 1) [.int s0, .int s1] σ post')
    (kk : ∀ (v : Option Value) (σ' : St), post' v σ' → V ω κ 20 [(0, .ref (ω.2.2.1 35)), (1, .long x1), (3, .int x3)] (v.toList ++ []) σ') : V ω κ 17 [(0, .ref (ω.2.2.1 35)), (1, .long x1), (3, .int x3)] [.int s1, .int s0] σ := by
  exact V_callS (d' := d - 1) (As := [.int s0, .int s1]) (rest := []) K.1 dX9_allWays_17 cw_X9_261 rfl (by omega) rfl (by simp [Value.category]) hM (fun v σ' h => kk v σ' h)
set_option maxRecDepth 20000 in
theorem C_X9_allWays_25 {ω : WT} {κ : KT} {l : Launch} {d : Nat} {post : Option Value → St → Prop} {σ : St} {x3 : Int32} {s0 s1 : Int64}  {post' : Option Value → St → Prop} (K : Cm ω κ l yX9_allWays cX9_allWays 6 d (some .long) post) (hdp : 1 ≤ d) (hM : Sp ω l yX9_leastCommon cX9_leastCommon 10 (some .long) (d - 1) [.long s0, .long s1] σ post')
    (kk : ∀ (v : Option Value) (σ' : St), post' v σ' → V ω κ 28 [(0, .ref (ω.2.2.1 35)), (3, .int x3)] (v.toList ++ []) σ') : V ω κ 25 [(0, .ref (ω.2.2.1 35)), (3, .int x3)] [.long s1, .long s0] σ := by
  exact V_callS (d' := d - 1) (As := [.long s0, .long s1]) (rest := []) K.1 dX9_allWays_25 cw_X9_265 rfl (by omega) rfl (by simp [Value.category]) hM (fun v σ' h => kk v σ' h)
set_option maxRecDepth 20000 in
theorem R_X9_leastCommon_0 {ω : WT} {κ : KT} {l : Launch} {d : Nat} {post : Option Value → St → Prop} {σ : St} {x0 x2 : Int64}  (K : Cm ω κ l yX9_leastCommon cX9_leastCommon 10 d (some .long) post)
    (k1 : V ω κ 6 [(0, .long x0), (2, .long x2), (4, .long x0), (6, .long x2)] [] σ) :
    V ω κ 0 [(0, .long x0), (2, .long x2)] [] σ := by
  refine V_lload_n 0 K.1 dX9_leastCommon_0 rfl rfl ?_
  refine V_lstore (L' := [(0, .long x0), (2, .long x2), (4, .long x0)]) K.1 dX9_leastCommon_1 (by decide) rfl ?_
  refine V_lload_n 1 K.1 dX9_leastCommon_3 rfl rfl ?_
  refine V_lstore (L' := [(0, .long x0), (2, .long x2), (4, .long x0), (6, .long x2)]) K.1 dX9_leastCommon_4 (by decide) rfl ?_
  exact k1
set_option maxRecDepth 20000 in
theorem R_X9_leastCommon_6 {ω : WT} {κ : KT} {l : Launch} {d : Nat} {post : Option Value → St → Prop} {σ : St} {x0 x2 x4 x6 : Int64}  (K : Cm ω κ l yX9_leastCommon cX9_leastCommon 10 d (some .long) post)
    (n1 : ((lg_cmp x6 (0 : Int64)) = 0) → ¬ x4 = 0)
    (k2 : ((lg_cmp x6 (0 : Int64)) = 0) → post (some (.long ((x0 / x4) * x2))) σ)
    (n3 : ¬ ((lg_cmp x6 (0 : Int64)) = 0) → ¬ x6 = 0)
    (k4 : ¬ ((lg_cmp x6 (0 : Int64)) = 0) → V ω κ 6 [(0, .long x0), (2, .long x2), (4, .long x6), (6, .long (x4 - x4 / x6 * x6))] [] σ) :
    V ω κ 6 [(0, .long x0), (2, .long x2), (4, .long x4), (6, .long x6)] [] σ := by
  refine V_lload 3 K.1 dX9_leastCommon_6 rfl ?_
  refine V_lconst (v := 0) K.1 dX9_leastCommon_8 (by decide) ?_
  refine V_lcmp K.1 dX9_leastCommon_9 ?_
  refine V_if_eq (tgt := 31) K.1 dX9_leastCommon_10 (by decide) (fun c10 => ?_) (fun c10 => ?_)
  · refine V_lload_n 0 K.1 dX9_leastCommon_31 rfl rfl ?_
    refine V_lload 2 K.1 dX9_leastCommon_32 rfl ?_
    refine V_ldiv K.1 dX9_leastCommon_34 (n1 c10) ?_
    refine V_lload_n 1 K.1 dX9_leastCommon_35 rfl rfl ?_
    refine V_lmul K.1 dX9_leastCommon_36 ?_
    exact V_lret K dX9_leastCommon_37 (k2 c10)
  · refine V_lload 2 K.1 dX9_leastCommon_13 rfl ?_
    refine V_lload 3 K.1 dX9_leastCommon_15 rfl ?_
    refine V_lrem K.1 dX9_leastCommon_17 (n3 c10) ?_
    refine V_lstore (L' := [(0, .long x0), (2, .long x2), (4, .long x4), (6, .long x6), (8, .long (x4 - x4 / x6 * x6))]) K.1 dX9_leastCommon_18 (by decide) rfl ?_
    refine V_lload 3 K.1 dX9_leastCommon_20 rfl ?_
    refine V_lstore (L' := [(0, .long x0), (2, .long x2), (4, .long x6), (6, .long x6), (8, .long (x4 - x4 / x6 * x6))]) K.1 dX9_leastCommon_22 (by decide) rfl ?_
    refine V_lload 4 K.1 dX9_leastCommon_24 rfl ?_
    refine V_lstore (L' := [(0, .long x0), (2, .long x2), (4, .long x6), (6, .long (x4 - x4 / x6 * x6)), (8, .long (x4 - x4 / x6 * x6))]) K.1 dX9_leastCommon_26 (by decide) rfl ?_
    refine V_goto (tgt := 6) K.1 dX9_leastCommon_28 (by decide) ?_
    exact V_sub [0, 1, 2, 3] rfl (k4 c10)
set_option maxRecDepth 20000 in
theorem R_X9_clearNext_0 {ω : WT} {κ : KT} {l : Launch} {d : Nat} {post : Option Value → St → Prop} {σ : St}  (K : Cm ω κ l yX9_clearNext cX9_clearNext 2 d none post)
    (k1 : V ω κ 2 [(0, .ref (ω.2.2.1 35)), (1, .int (0 : Int32))] [] σ) :
    V ω κ 0 [(0, .ref (ω.2.2.1 35))] [] σ := by
  refine V_iconst (v := 0) K.1 dX9_clearNext_0 (by decide) ?_
  refine V_istore_n (L' := [(0, .ref (ω.2.2.1 35)), (1, .int (0 : Int32))]) K.1 dX9_clearNext_1 rfl (by decide) rfl ?_
  exact k1
set_option maxRecDepth 20000 in
theorem R_X9_clearNext_2 {ω : WT} {κ : KT} {l : Launch} {d : Nat} {post : Option Value → St → Prop} {σ : St} {x1 : Int32}  (K : Cm ω κ l yX9_clearNext cX9_clearNext 2 d none post)
    (k1 : ((257 : Int32) ≤ x1) → post none σ)
    (b2 : ¬ ((257 : Int32) ≤ x1) → vp_in x1 257)
    (k3 : ¬ ((257 : Int32) ≤ x1) → V ω κ 2 [(0, .ref (ω.2.2.1 35)), (1, .int (x1 + 1))] [] (pM σ 58 (x1).toNatClampNeg (0 : Int64))) :
    V ω κ 2 [(0, .ref (ω.2.2.1 35)), (1, .int x1)] [] σ := by
  refine V_iload_n 1 K.1 dX9_clearNext_2 rfl rfl ?_
  refine V_sipush (v := 257) K.1 dX9_clearNext_3 (by decide) ?_
  refine V_icmp_ge (tgt := 22) K.1 dX9_clearNext_6 (by decide) (fun c6 => ?_) (fun c6 => ?_)
  · exact V_vret K dX9_clearNext_22 (k1 c6)
  · refine V_aload_n 0 K.1 dX9_clearNext_9 rfl rfl ?_
    refine V_get (v := .ref (ω.2.2.1 58)) K.1 dX9_clearNext_10 rfl rfl fw_X9_78 rfl rfl ?_
    refine V_iload_n 1 K.1 dX9_clearNext_13 rfl rfl ?_
    refine V_lconst (v := 0) K.1 dX9_clearNext_14 (by decide) ?_
    refine V_lastore K.1 dX9_clearNext_15 rfl (b2 c6) ?_
    refine V_iinc (v := (x1 + 1)) (L' := [(0, .ref (ω.2.2.1 35)), (1, .int (x1 + 1))]) 1 K.1 dX9_clearNext_16 rfl rfl (by decide) rfl ?_
    refine V_goto (tgt := 2) K.1 dX9_clearNext_19 (by decide) ?_
    exact (k3 c6)
set_option maxRecDepth 20000 in
theorem R_X9_drawSeats_0 {ω : WT} {κ : KT} {l : Launch} {d : Nat} {post : Option Value → St → Prop} {σ : St} {x1 x3 : Int64}  (K : Cm ω κ l yX9_drawSeats cX9_drawSeats 8 d none post)
    (k1 : V ω κ 10 [(0, .ref (ω.2.2.1 35))] [.int (σ.1 2266), .int (σ.1 2245), .long x3, .long x1] σ) :
    V ω κ 0 [(0, .ref (ω.2.2.1 35)), (1, .long x1), (3, .long x3)] [] σ := by
  refine V_lload_n 1 K.1 dX9_drawSeats_0 rfl rfl ?_
  refine V_lload_n 2 K.1 dX9_drawSeats_1 rfl rfl ?_
  refine V_aload_n 0 K.1 dX9_drawSeats_2 rfl rfl ?_
  refine V_get (v := .int (σ.1 2245)) K.1 dX9_drawSeats_3 rfl rfl fw_X9_91 rfl rfl ?_
  refine V_aload_n 0 K.1 dX9_drawSeats_6 rfl rfl ?_
  refine V_get (v := .int (σ.1 2266)) K.1 dX9_drawSeats_7 rfl rfl fw_X9_183 rfl rfl ?_
  exact V_sub [0] rfl k1
set_option maxRecDepth 20000 in
theorem R_X9_drawSeats_13 {ω : WT} {κ : KT} {l : Launch} {d : Nat} {post : Option Value → St → Prop} {σ : St} {s0 s1 s2 : Int64}  (K : Cm ω κ l yX9_drawSeats cX9_drawSeats 8 d none post)
    (n1 : ¬ s2 = 0)
    (k2 : V ω κ 20 [(0, .ref (ω.2.2.1 35)), (5, .long (s0 * (s1 / s2))), (7, .int (0 : Int32))] [] σ) :
    V ω κ 13 [(0, .ref (ω.2.2.1 35))] [.long s2, .long s1, .long s0] σ := by
  refine V_ldiv K.1 dX9_drawSeats_13 n1 ?_
  refine V_lmul K.1 dX9_drawSeats_14 ?_
  refine V_lstore (L' := [(0, .ref (ω.2.2.1 35)), (5, .long (s0 * (s1 / s2)))]) K.1 dX9_drawSeats_15 (by decide) rfl ?_
  refine V_iconst (v := 0) K.1 dX9_drawSeats_17 (by decide) ?_
  refine V_istore (L' := [(0, .ref (ω.2.2.1 35)), (5, .long (s0 * (s1 / s2))), (7, .int (0 : Int32))]) K.1 dX9_drawSeats_18 (by decide) rfl ?_
  exact k2
set_option maxRecDepth 20000 in
theorem R_X9_drawSeats_20 {ω : WT} {κ : KT} {l : Launch} {d : Nat} {post : Option Value → St → Prop} {σ : St} {x7 : Int32} {x5 : Int64}  (K : Cm ω κ l yX9_drawSeats cX9_drawSeats 8 d none post) (hdp : 1 ≤ d)
    (k1 : ((((1 : Int32) <<< ((σ.1 2245) &&& 31)) - (1 : Int32)) < x7) → post none σ)
    (b2 : ¬ ((((1 : Int32) <<< ((σ.1 2245) &&& 31)) - (1 : Int32)) < x7) → vp_in x7 257)
    (b4 : ¬ ((((1 : Int32) <<< ((σ.1 2245) &&& 31)) - (1 : Int32)) < x7) → vp_in x7 257)
    (k5 : ¬ ((((1 : Int32) <<< ((σ.1 2245) &&& 31)) - (1 : Int32)) < x7) → V ω κ 20 [(0, .ref (ω.2.2.1 35)), (5, .long x5), (7, .int (x7 + 1))] [] (pM σ 58 (x7).toNatClampNeg ((σ.2.2.2 58 (x7).toNatClampNeg) + (if ((F_bits x7 20) = (σ.1 2266)) then x5 else (0 : Int64))))) :
    V ω κ 20 [(0, .ref (ω.2.2.1 35)), (5, .long x5), (7, .int x7)] [] σ := by
  refine V_iload 2 K.1 dX9_drawSeats_20 rfl ?_
  refine V_aload_n 0 K.1 dX9_drawSeats_22 rfl rfl ?_
  refine V_callV (d' := d - 1) (As := []) K.1 dX9_drawSeats_23 cw_X9_150 rfl rfl rfl (by omega) rfl (by simp [Value.category]) (m_X9_everyone K.1.wf (by omega)) (go_I ?_)
  refine V_icmp_gt (tgt := 63) K.1 dX9_drawSeats_26 (by decide) (fun c26 => ?_) (fun c26 => ?_)
  · exact V_vret K dX9_drawSeats_63 (k1 c26)
  · refine V_aload_n 0 K.1 dX9_drawSeats_29 rfl rfl ?_
    refine V_get (v := .ref (ω.2.2.1 58)) K.1 dX9_drawSeats_30 rfl rfl fw_X9_78 rfl rfl ?_
    refine V_iload 2 K.1 dX9_drawSeats_33 rfl ?_
    refine V_dup2 K.1 dX9_drawSeats_35 rfl rfl ?_
    refine V_laload (v := (σ.2.2.2 58 (x7).toNatClampNeg)) K.1 dX9_drawSeats_36 rfl (b2 c26) rfl ?_
    refine V_iload 2 K.1 dX9_drawSeats_37 rfl ?_
    refine V_callS (d' := d - 1) (As := [.int x7]) K.1 dX9_drawSeats_39 cw_X9_235 rfl (by omega) rfl (by simp [Value.category]) (m_X9_bits K.1.wf (by omega)) (go_I ?_)
    refine V_aload_n 0 K.1 dX9_drawSeats_42 rfl rfl ?_
    refine V_get (v := .int (σ.1 2266)) K.1 dX9_drawSeats_43 rfl rfl fw_X9_183 rfl rfl ?_
    refine V_join (J := 55) (S := [.long (σ.2.2.2 58 (x7).toNatClampNeg), .int x7, .ref (ω.2.2.1 58)]) (v := .long (if ((F_bits x7 20) = (σ.1 2266)) then x5 else (0 : Int64))) (fun hJ3 => ?_) ?_
    · refine V_icmp_ne (tgt := 54) K.1 dX9_drawSeats_46 (by decide) (fun c46 => ?_) (fun c46 => ?_)
      · refine V_lconst (v := 0) K.1 dX9_drawSeats_54 (by decide) ?_
        exact V_topJ (if_neg c46) hJ3
      · refine V_lload 1 K.1 dX9_drawSeats_49 rfl ?_
        refine V_goto (tgt := 55) K.1 dX9_drawSeats_51 (by decide) ?_
        exact V_topJ (if_pos c46) hJ3
    refine V_ladd K.1 dX9_drawSeats_55 ?_
    refine V_lastore K.1 dX9_drawSeats_56 rfl (b4 c26) ?_
    refine V_iinc (v := (x7 + 1)) (L' := [(0, .ref (ω.2.2.1 35)), (5, .long x5), (7, .int (x7 + 1))]) 2 K.1 dX9_drawSeats_57 rfl rfl (by decide) rfl ?_
    refine V_goto (tgt := 20) K.1 dX9_drawSeats_60 (by decide) ?_
    exact (k5 c26)
set_option maxRecDepth 20000 in
theorem C_X9_drawSeats_10 {ω : WT} {κ : KT} {l : Launch} {d : Nat} {post : Option Value → St → Prop} {σ : St} {s2 s3 : Int32} {s0 s1 : Int64}  {post' : Option Value → St → Prop} (K : Cm ω κ l yX9_drawSeats cX9_drawSeats 8 d none post) (hdp : 1 ≤ d) (hM : Sp ω l yX9_choose cX9_choose 5 (some .long) (d - 1) [.int s2, .int s3] σ post')
    (kk : ∀ (v : Option Value) (σ' : St), post' v σ' → V ω κ 13 [(0, .ref (ω.2.2.1 35))] (v.toList ++ [.long s1, .long s0]) σ') : V ω κ 10 [(0, .ref (ω.2.2.1 35))] [.int s3, .int s2, .long s1, .long s0] σ := by
  exact V_callS (d' := d - 1) (As := [.int s2, .int s3]) (rest := [.long s1, .long s0]) K.1 dX9_drawSeats_10 cw_X9_261 rfl (by omega) rfl (by simp [Value.category]) hM (fun v σ' h => kk v σ' h)
set_option maxRecDepth 20000 in
theorem R_X9_goLot_0 {ω : WT} {κ : KT} {l : Launch} {d : Nat} {post : Option Value → St → Prop} {σ : St} {x1 : Int32} {x2 : Int64}  (K : Cm ω κ l yX9_goLot cX9_goLot 5 d none post)
    (k1 : V ω κ 1 [(0, .ref (ω.2.2.1 35)), (1, .int x1), (2, .long x2)] [.ref (ω.2.2.1 35)] σ) :
    V ω κ 0 [(0, .ref (ω.2.2.1 35)), (1, .int x1), (2, .long x2)] [] σ := by
  refine V_aload_n 0 K.1 dX9_goLot_0 rfl rfl ?_
  exact k1
set_option maxRecDepth 20000 in
theorem R_X9_goLot_4 {ω : WT} {κ : KT} {l : Launch} {d : Nat} {post : Option Value → St → Prop} {σ : St} {x1 : Int32} {x2 : Int64}  (K : Cm ω κ l yX9_goLot cX9_goLot 5 d none post)
    (k1 : V ω κ 7 [(0, .ref (ω.2.2.1 35)), (1, .int x1), (2, .long x2), (4, .int (0 : Int32))] [] σ) :
    V ω κ 4 [(0, .ref (ω.2.2.1 35)), (1, .int x1), (2, .long x2)] [] σ := by
  refine V_iconst (v := 0) K.1 dX9_goLot_4 (by decide) ?_
  refine V_istore (L' := [(0, .ref (ω.2.2.1 35)), (1, .int x1), (2, .long x2), (4, .int (0 : Int32))]) K.1 dX9_goLot_5 (by decide) rfl ?_
  exact k1
set_option maxRecDepth 20000 in
theorem R_X9_goLot_7 {ω : WT} {κ : KT} {l : Launch} {d : Nat} {post : Option Value → St → Prop} {σ : St} {x1 x4 : Int32} {x2 : Int64}  (K : Cm ω κ l yX9_goLot cX9_goLot 5 d none post) (hdp : 1 ≤ d)
    (b1 : ((((1 : Int32) <<< ((σ.1 2245) &&& 31)) - (1 : Int32)) < x4) → vp_in (((1 : Int32) <<< ((σ.1 2245) &&& 31)) - (1 : Int32)) 257)
    (b2 : ((((1 : Int32) <<< ((σ.1 2245) &&& 31)) - (1 : Int32)) < x4) → vp_in (256 : Int32) 257)
    (b3 : ((((1 : Int32) <<< ((σ.1 2245) &&& 31)) - (1 : Int32)) < x4) → vp_in (((1 : Int32) <<< ((σ.1 2245) &&& 31)) - (1 : Int32)) 257)
    (k4 : ((((1 : Int32) <<< ((σ.1 2245) &&& 31)) - (1 : Int32)) < x4) → V ω κ 114 [(0, .ref (ω.2.2.1 35)), (4, .int (0 : Int32))] [] (pM σ 58 ((((1 : Int32) <<< ((σ.1 2245) &&& 31)) - (1 : Int32))).toNatClampNeg ((σ.2.2.2 58 ((((1 : Int32) <<< ((σ.1 2245) &&& 31)) - (1 : Int32))).toNatClampNeg) + ((σ.2.2.2 57 ((256 : Int32)).toNatClampNeg) * x2))))
    (b5 : ¬ ((((1 : Int32) <<< ((σ.1 2245) &&& 31)) - (1 : Int32)) < x4) → vp_in x4 257)
    (k6 : ¬ ((((1 : Int32) <<< ((σ.1 2245) &&& 31)) - (1 : Int32)) < x4) → ((lg_cmp (σ.2.2.2 57 (x4).toNatClampNeg) (0 : Int64)) = 0) → V ω κ 7 [(0, .ref (ω.2.2.1 35)), (1, .int x1), (2, .long x2), (4, .int (x4 + 1))] [] σ)
    (k7 : ¬ ((((1 : Int32) <<< ((σ.1 2245) &&& 31)) - (1 : Int32)) < x4) → ¬ ((lg_cmp (σ.2.2.2 57 (x4).toNatClampNeg) (0 : Int64)) = 0) → V ω κ 38 [(0, .ref (ω.2.2.1 35)), (1, .int x1), (2, .long x2), (4, .int x4)] [.int (0 : Int32), .int (0 : Int32), .int x1, .ref (ω.2.2.1 35)] (pS σ 2258 x4)) :
    V ω κ 7 [(0, .ref (ω.2.2.1 35)), (1, .int x1), (2, .long x2), (4, .int x4)] [] σ := by
  refine V_iload 3 K.1 dX9_goLot_7 rfl ?_
  refine V_aload_n 0 K.1 dX9_goLot_9 rfl rfl ?_
  refine V_callV (d' := d - 1) (As := []) K.1 dX9_goLot_10 cw_X9_150 rfl rfl rfl (by omega) rfl (by simp [Value.category]) (m_X9_everyone K.1.wf (by omega)) (go_I ?_)
  refine V_icmp_gt (tgt := 89) K.1 dX9_goLot_13 (by decide) (fun c13 => ?_) (fun c13 => ?_)
  · refine V_aload_n 0 K.1 dX9_goLot_89 rfl rfl ?_
    refine V_get (v := .ref (ω.2.2.1 58)) K.1 dX9_goLot_90 rfl rfl fw_X9_78 rfl rfl ?_
    refine V_aload_n 0 K.1 dX9_goLot_93 rfl rfl ?_
    refine V_callV (d' := d - 1) (As := []) K.1 dX9_goLot_94 cw_X9_150 rfl rfl rfl (by omega) rfl (by simp [Value.category]) (m_X9_everyone K.1.wf (by omega)) (go_I ?_)
    refine V_dup2 K.1 dX9_goLot_97 rfl rfl ?_
    refine V_laload (v := (σ.2.2.2 58 ((((1 : Int32) <<< ((σ.1 2245) &&& 31)) - (1 : Int32))).toNatClampNeg)) K.1 dX9_goLot_98 rfl (b1 c13) rfl ?_
    refine V_aload_n 0 K.1 dX9_goLot_99 rfl rfl ?_
    refine V_get (v := .ref (ω.2.2.1 57)) K.1 dX9_goLot_100 rfl rfl fw_X9_74 rfl rfl ?_
    refine V_sipush (v := 256) K.1 dX9_goLot_103 (by decide) ?_
    refine V_laload (v := (σ.2.2.2 57 ((256 : Int32)).toNatClampNeg)) K.1 dX9_goLot_106 rfl (b2 c13) rfl ?_
    refine V_lload_n 2 K.1 dX9_goLot_107 rfl rfl ?_
    refine V_lmul K.1 dX9_goLot_108 ?_
    refine V_ladd K.1 dX9_goLot_109 ?_
    refine V_lastore K.1 dX9_goLot_110 rfl (b3 c13) ?_
    refine V_iconst (v := 0) K.1 dX9_goLot_111 (by decide) ?_
    refine V_istore (L' := [(0, .ref (ω.2.2.1 35)), (1, .int x1), (2, .long x2), (4, .int (0 : Int32))]) K.1 dX9_goLot_112 (by decide) rfl ?_
    exact V_sub [0, 3] rfl (k4 c13)
  · refine V_aload_n 0 K.1 dX9_goLot_16 rfl rfl ?_
    refine V_get (v := .ref (ω.2.2.1 57)) K.1 dX9_goLot_17 rfl rfl fw_X9_74 rfl rfl ?_
    refine V_iload 3 K.1 dX9_goLot_20 rfl ?_
    refine V_laload (v := (σ.2.2.2 57 (x4).toNatClampNeg)) K.1 dX9_goLot_22 rfl (b5 c13) rfl ?_
    refine V_lconst (v := 0) K.1 dX9_goLot_23 (by decide) ?_
    refine V_lcmp K.1 dX9_goLot_24 ?_
    refine V_if_eq (tgt := 83) K.1 dX9_goLot_25 (by decide) (fun c25 => ?_) (fun c25 => ?_)
    · refine V_iinc (v := (x4 + 1)) (L' := [(0, .ref (ω.2.2.1 35)), (1, .int x1), (2, .long x2), (4, .int (x4 + 1))]) 3 K.1 dX9_goLot_83 rfl rfl (by decide) rfl ?_
      refine V_goto (tgt := 7) K.1 dX9_goLot_86 (by decide) ?_
      exact (k6 c13 c25)
    · refine V_aload_n 0 K.1 dX9_goLot_28 rfl rfl ?_
      refine V_iload 3 K.1 dX9_goLot_29 rfl ?_
      refine V_putI (key := 2258) K.1 dX9_goLot_31 rfl rfl fw_X9_154 pw_X9_18 rfl rfl rfl rfl ?_
      refine V_aload_n 0 K.1 dX9_goLot_34 rfl rfl ?_
      refine V_iload_n 1 K.1 dX9_goLot_35 rfl rfl ?_
      refine V_iconst (v := 0) K.1 dX9_goLot_36 (by decide) ?_
      refine V_iconst (v := 0) K.1 dX9_goLot_37 (by decide) ?_
      exact (k7 c13 c25)
set_option maxRecDepth 20000 in
theorem R_X9_goLot_41 {ω : WT} {κ : KT} {l : Launch} {d : Nat} {post : Option Value → St → Prop} {σ : St} {x1 x4 : Int32} {x2 : Int64}  (K : Cm ω κ l yX9_goLot cX9_goLot 5 d none post)
    (b1 : ¬ ((σ.1 2266) = 0) → vp_in x4 257)
    (k2 : ¬ ((σ.1 2266) = 0) → V ω κ 80 [(0, .ref (ω.2.2.1 35)), (1, .int x1), (2, .long x2), (4, .int x4)] [.long x2, .long (σ.2.2.2 57 (x4).toNatClampNeg), .ref (ω.2.2.1 35)] σ)
    (b3 : ((σ.1 2266) = 0) → vp_in (256 : Int32) 257)
    (b4 : ((σ.1 2266) = 0) → vp_in x4 257)
    (b5 : ((σ.1 2266) = 0) → vp_in (256 : Int32) 257)
    (k6 : ((σ.1 2266) = 0) → V ω κ 7 [(0, .ref (ω.2.2.1 35)), (1, .int x1), (2, .long x2), (4, .int (x4 + 1))] [] (pM σ 58 ((256 : Int32)).toNatClampNeg ((σ.2.2.2 58 ((256 : Int32)).toNatClampNeg) + ((σ.2.2.2 57 (x4).toNatClampNeg) * x2)))) :
    V ω κ 41 [(0, .ref (ω.2.2.1 35)), (1, .int x1), (2, .long x2), (4, .int x4)] [] σ := by
  refine V_aload_n 0 K.1 dX9_goLot_41 rfl rfl ?_
  refine V_get (v := .int (σ.1 2266)) K.1 dX9_goLot_42 rfl rfl fw_X9_183 rfl rfl ?_
  refine V_if_ne (tgt := 71) K.1 dX9_goLot_45 (by decide) (fun c45 => ?_) (fun c45 => ?_)
  · refine V_aload_n 0 K.1 dX9_goLot_71 rfl rfl ?_
    refine V_aload_n 0 K.1 dX9_goLot_72 rfl rfl ?_
    refine V_get (v := .ref (ω.2.2.1 57)) K.1 dX9_goLot_73 rfl rfl fw_X9_74 rfl rfl ?_
    refine V_iload 3 K.1 dX9_goLot_76 rfl ?_
    refine V_laload (v := (σ.2.2.2 57 (x4).toNatClampNeg)) K.1 dX9_goLot_78 rfl (b1 c45) rfl ?_
    refine V_lload_n 2 K.1 dX9_goLot_79 rfl rfl ?_
    exact (k2 c45)
  · refine V_aload_n 0 K.1 dX9_goLot_48 rfl rfl ?_
    refine V_get (v := .ref (ω.2.2.1 58)) K.1 dX9_goLot_49 rfl rfl fw_X9_78 rfl rfl ?_
    refine V_sipush (v := 256) K.1 dX9_goLot_52 (by decide) ?_
    refine V_dup2 K.1 dX9_goLot_55 rfl rfl ?_
    refine V_laload (v := (σ.2.2.2 58 ((256 : Int32)).toNatClampNeg)) K.1 dX9_goLot_56 rfl (b3 c45) rfl ?_
    refine V_aload_n 0 K.1 dX9_goLot_57 rfl rfl ?_
    refine V_get (v := .ref (ω.2.2.1 57)) K.1 dX9_goLot_58 rfl rfl fw_X9_74 rfl rfl ?_
    refine V_iload 3 K.1 dX9_goLot_61 rfl ?_
    refine V_laload (v := (σ.2.2.2 57 (x4).toNatClampNeg)) K.1 dX9_goLot_63 rfl (b4 c45) rfl ?_
    refine V_lload_n 2 K.1 dX9_goLot_64 rfl rfl ?_
    refine V_lmul K.1 dX9_goLot_65 ?_
    refine V_ladd K.1 dX9_goLot_66 ?_
    refine V_lastore K.1 dX9_goLot_67 rfl (b5 c45) ?_
    refine V_goto (tgt := 83) K.1 dX9_goLot_68 (by decide) ?_
    refine V_iinc (v := (x4 + 1)) (L' := [(0, .ref (ω.2.2.1 35)), (1, .int x1), (2, .long x2), (4, .int (x4 + 1))]) 3 K.1 dX9_goLot_83 rfl rfl (by decide) rfl ?_
    refine V_goto (tgt := 7) K.1 dX9_goLot_86 (by decide) ?_
    exact (k6 c45)
set_option maxRecDepth 20000 in
theorem R_X9_goLot_83 {ω : WT} {κ : KT} {l : Launch} {d : Nat} {post : Option Value → St → Prop} {σ : St} {x1 x4 : Int32} {x2 : Int64}  (K : Cm ω κ l yX9_goLot cX9_goLot 5 d none post)
    (k1 : V ω κ 7 [(0, .ref (ω.2.2.1 35)), (1, .int x1), (2, .long x2), (4, .int (x4 + 1))] [] σ) :
    V ω κ 83 [(0, .ref (ω.2.2.1 35)), (1, .int x1), (2, .long x2), (4, .int x4)] [] σ := by
  refine V_iinc (v := (x4 + 1)) (L' := [(0, .ref (ω.2.2.1 35)), (1, .int x1), (2, .long x2), (4, .int (x4 + 1))]) 3 K.1 dX9_goLot_83 rfl rfl (by decide) rfl ?_
  refine V_goto (tgt := 7) K.1 dX9_goLot_86 (by decide) ?_
  exact k1
set_option maxRecDepth 20000 in
theorem R_X9_goLot_114 {ω : WT} {κ : KT} {l : Launch} {d : Nat} {post : Option Value → St → Prop} {σ : St} {x4 : Int32}  (K : Cm ω κ l yX9_goLot cX9_goLot 5 d none post)
    (k1 : ((257 : Int32) ≤ x4) → post none σ)
    (b2 : ¬ ((257 : Int32) ≤ x4) → vp_in x4 257)
    (b3 : ¬ ((257 : Int32) ≤ x4) → vp_in x4 257)
    (k4 : ¬ ((257 : Int32) ≤ x4) → V ω κ 114 [(0, .ref (ω.2.2.1 35)), (4, .int (x4 + 1))] [] (pM σ 57 (x4).toNatClampNeg (σ.2.2.2 58 (x4).toNatClampNeg))) :
    V ω κ 114 [(0, .ref (ω.2.2.1 35)), (4, .int x4)] [] σ := by
  refine V_iload 1 K.1 dX9_goLot_114 rfl ?_
  refine V_sipush (v := 257) K.1 dX9_goLot_116 (by decide) ?_
  refine V_icmp_ge (tgt := 142) K.1 dX9_goLot_119 (by decide) (fun c119 => ?_) (fun c119 => ?_)
  · exact V_vret K dX9_goLot_142 (k1 c119)
  · refine V_aload_n 0 K.1 dX9_goLot_122 rfl rfl ?_
    refine V_get (v := .ref (ω.2.2.1 57)) K.1 dX9_goLot_123 rfl rfl fw_X9_74 rfl rfl ?_
    refine V_iload 1 K.1 dX9_goLot_126 rfl ?_
    refine V_aload_n 0 K.1 dX9_goLot_128 rfl rfl ?_
    refine V_get (v := .ref (ω.2.2.1 58)) K.1 dX9_goLot_129 rfl rfl fw_X9_78 rfl rfl ?_
    refine V_iload 1 K.1 dX9_goLot_132 rfl ?_
    refine V_laload (v := (σ.2.2.2 58 (x4).toNatClampNeg)) K.1 dX9_goLot_134 rfl (b2 c119) rfl ?_
    refine V_lastore K.1 dX9_goLot_135 rfl (b3 c119) ?_
    refine V_iinc (v := (x4 + 1)) (L' := [(0, .ref (ω.2.2.1 35)), (4, .int (x4 + 1))]) 1 K.1 dX9_goLot_136 rfl rfl (by decide) rfl ?_
    refine V_goto (tgt := 114) K.1 dX9_goLot_139 (by decide) ?_
    exact (k4 c119)
set_option maxRecDepth 20000 in
theorem C_X9_goLot_1 {ω : WT} {κ : KT} {l : Launch} {d : Nat} {post : Option Value → St → Prop} {σ : St} {x1 : Int32} {x2 : Int64}  {post' : Option Value → St → Prop} (K : Cm ω κ l yX9_goLot cX9_goLot 5 d none post) (hdp : 1 ≤ d) (hM : Sp ω l yX9_clearNext cX9_clearNext 2 none (d - 1) [.ref (ω.2.2.1 35)] σ post')
    (kk : ∀ (v : Option Value) (σ' : St), post' v σ' → V ω κ 4 [(0, .ref (ω.2.2.1 35)), (1, .int x1), (2, .long x2)] (v.toList ++ []) σ') : V ω κ 1 [(0, .ref (ω.2.2.1 35)), (1, .int x1), (2, .long x2)] [.ref (ω.2.2.1 35)] σ := by
  exact V_callV (d' := d - 1) (As := []) (rest := []) K.1 dX9_goLot_1 cw_X9_269 rfl rfl rfl (by omega) rfl (by simp [Value.category]) hM (fun v σ' h => kk v σ' h)
set_option maxRecDepth 20000 in
theorem C_X9_goLot_38 {ω : WT} {κ : KT} {l : Launch} {d : Nat} {post : Option Value → St → Prop} {σ : St} {x1 x4 s1 s2 s3 : Int32} {x2 : Int64}  {post' : Option Value → St → Prop} (K : Cm ω κ l yX9_goLot cX9_goLot 5 d none post) (hdp : 1 ≤ d) (hM : Sp ω l yX9_poll cX9_poll 9 none (d - 1) [.ref (ω.2.2.1 35), .int s1, .int s2, .int s3] σ post')
    (kk : ∀ (v : Option Value) (σ' : St), post' v σ' → V ω κ 41 [(0, .ref (ω.2.2.1 35)), (1, .int x1), (2, .long x2), (4, .int x4)] (v.toList ++ []) σ') : V ω κ 38 [(0, .ref (ω.2.2.1 35)), (1, .int x1), (2, .long x2), (4, .int x4)] [.int s3, .int s2, .int s1, .ref (ω.2.2.1 35)] σ := by
  exact V_callV (d' := d - 1) (As := [.int s1, .int s2, .int s3]) (rest := []) K.1 dX9_goLot_38 cw_X9_195 rfl rfl rfl (by omega) rfl (by simp [Value.category]) hM (fun v σ' h => kk v σ' h)
set_option maxRecDepth 20000 in
theorem C_X9_goLot_80 {ω : WT} {κ : KT} {l : Launch} {d : Nat} {post : Option Value → St → Prop} {σ : St} {x1 x4 : Int32} {x2 s1 s2 : Int64}  {post' : Option Value → St → Prop} (K : Cm ω κ l yX9_goLot cX9_goLot 5 d none post) (hdp : 1 ≤ d) (hM : Sp ω l yX9_drawSeats cX9_drawSeats 8 none (d - 1) [.ref (ω.2.2.1 35), .long s1, .long s2] σ post')
    (kk : ∀ (v : Option Value) (σ' : St), post' v σ' → V ω κ 83 [(0, .ref (ω.2.2.1 35)), (1, .int x1), (2, .long x2), (4, .int x4)] (v.toList ++ []) σ') : V ω κ 80 [(0, .ref (ω.2.2.1 35)), (1, .int x1), (2, .long x2), (4, .int x4)] [.long s2, .long s1, .ref (ω.2.2.1 35)] σ := by
  exact V_callV (d' := d - 1) (As := [.long s1, .long s2]) (rest := []) K.1 dX9_goLot_80 cw_X9_272 rfl rfl rfl (by omega) rfl (by simp [Value.category]) hM (fun v σ' h => kk v σ' h)
set_option maxRecDepth 20000 in
theorem R_X9_lot_0 {ω : WT} {κ : KT} {l : Launch} {d : Nat} {post : Option Value → St → Prop} {σ : St} {x1 : Int32}  (K : Cm ω κ l yX9_lot cX9_lot 9 d (some .long) post) (hdp : 2 ≤ d)
    (k1 : ((if (x1 < (0 : Int32)) then (0 : Int32) else (if ((1 : Int32) < x1) then (0 : Int32) else (1 : Int32))) = 0) → post (some (.long (-9223372036854775808 : Int64))) σ)
    (k2 : ¬ ((if (x1 < (0 : Int32)) then (0 : Int32) else (if ((1 : Int32) < x1) then (0 : Int32) else (1 : Int32))) = 0) → ¬ ((if ((σ.1 2245) ≤ 0) then (0 : Int32) else (1 : Int32)) = 0) → V ω κ 26 [(0, .ref (ω.2.2.1 35)), (1, .int x1), (2, .int (0 : Int32))] [] (pS (pS (pS (pS (pS σ 2258 (((1 : Int32) <<< ((σ.1 2245) &&& 31)) - (1 : Int32))) 2259 (0 : Int32)) 2260 ((σ.1 2245) - (1 : Int32))) 2261 (σ.1 2249)) 2262 (σ.1 2250)))
    (k3 : ¬ ((if (x1 < (0 : Int32)) then (0 : Int32) else (if ((1 : Int32) < x1) then (0 : Int32) else (1 : Int32))) = 0) → ((if ((σ.1 2245) ≤ 0) then (0 : Int32) else (1 : Int32)) = 0) → post (some (.long (-9223372036854775808 : Int64))) σ) :
    V ω κ 0 [(0, .ref (ω.2.2.1 35)), (1, .int x1)] [] σ := by
  refine V_iload_n 1 K.1 dX9_lot_0 rfl rfl ?_
  refine V_iconst (v := 0) K.1 dX9_lot_1 (by decide) ?_
  refine V_iconst (v := 1) K.1 dX9_lot_2 (by decide) ?_
  refine V_callS (d' := d - 1) (As := [.int x1, .int (0 : Int32), .int (1 : Int32)]) K.1 dX9_lot_3 cw_X9_87 rfl (by omega) rfl (by simp [Value.category]) (m_X9_within K.1.wf (by omega)) (go_I ?_)
  refine V_if_eq (tgt := 16) K.1 dX9_lot_6 (by decide) (fun c6 => ?_) (fun c6 => ?_)
  · refine V_ldc2_w K.1 dX9_lot_16 cn_X9_85 ?_
    exact V_lret K dX9_lot_19 (k1 c6)
  · refine V_aload_n 0 K.1 dX9_lot_9 rfl rfl ?_
    refine V_callV (d' := d - 1) (As := []) K.1 dX9_lot_10 cw_X9_146 rfl rfl rfl (by omega) rfl (by simp [Value.category]) (m_X9_isTown K.1.wf (by omega)) (go_I ?_)
    refine V_if_ne (tgt := 20) K.1 dX9_lot_13 (by decide) (fun c13 => ?_) (fun c13 => ?_)
    · refine V_aload_n 0 K.1 dX9_lot_20 rfl rfl ?_
      refine V_callV (d' := d - 1) (As := []) K.1 dX9_lot_21 cw_X9_205 rfl rfl rfl (by omega) rfl (by simp [Value.category]) (m_X9_layHall K.1.wf (by omega)) (go_V ?_)
      refine V_iconst (v := 0) K.1 dX9_lot_24 (by decide) ?_
      refine V_istore_n (L' := [(0, .ref (ω.2.2.1 35)), (1, .int x1), (2, .int (0 : Int32))]) K.1 dX9_lot_25 rfl (by decide) rfl ?_
      exact (k2 c6 c13)
    · refine V_ldc2_w K.1 dX9_lot_16 cn_X9_85 ?_
      exact V_lret K dX9_lot_19 (k3 c6 c13)
set_option maxRecDepth 20000 in
theorem R_X9_lot_26 {ω : WT} {κ : KT} {l : Launch} {d : Nat} {post : Option Value → St → Prop} {σ : St} {x1 x2 : Int32}  (K : Cm ω κ l yX9_lot cX9_lot 9 d (some .long) post) (hdp : 1 ≤ d)
    (b1 : ((257 : Int32) ≤ x2) → vp_in (((1 : Int32) <<< ((σ.1 2245) &&& 31)) - (1 : Int32)) 257)
    (k2 : ((257 : Int32) ≤ x2) → V ω κ 57 [(0, .ref (ω.2.2.1 35)), (1, .int x1)] [.ref (ω.2.2.1 35)] (pM σ 57 ((((1 : Int32) <<< ((σ.1 2245) &&& 31)) - (1 : Int32))).toNatClampNeg (1 : Int64)))
    (b3 : ¬ ((257 : Int32) ≤ x2) → vp_in x2 257)
    (k4 : ¬ ((257 : Int32) ≤ x2) → V ω κ 26 [(0, .ref (ω.2.2.1 35)), (1, .int x1), (2, .int (x2 + 1))] [] (pM σ 57 (x2).toNatClampNeg (0 : Int64))) :
    V ω κ 26 [(0, .ref (ω.2.2.1 35)), (1, .int x1), (2, .int x2)] [] σ := by
  refine V_iload_n 2 K.1 dX9_lot_26 rfl rfl ?_
  refine V_sipush (v := 257) K.1 dX9_lot_27 (by decide) ?_
  refine V_icmp_ge (tgt := 46) K.1 dX9_lot_30 (by decide) (fun c30 => ?_) (fun c30 => ?_)
  · refine V_aload_n 0 K.1 dX9_lot_46 rfl rfl ?_
    refine V_get (v := .ref (ω.2.2.1 57)) K.1 dX9_lot_47 rfl rfl fw_X9_74 rfl rfl ?_
    refine V_aload_n 0 K.1 dX9_lot_50 rfl rfl ?_
    refine V_callV (d' := d - 1) (As := []) K.1 dX9_lot_51 cw_X9_150 rfl rfl rfl (by omega) rfl (by simp [Value.category]) (m_X9_everyone K.1.wf (by omega)) (go_I ?_)
    refine V_lconst (v := 1) K.1 dX9_lot_54 (by decide) ?_
    refine V_lastore K.1 dX9_lot_55 rfl (b1 c30) ?_
    refine V_aload_n 0 K.1 dX9_lot_56 rfl rfl ?_
    exact V_sub [0, 1] rfl (k2 c30)
  · refine V_aload_n 0 K.1 dX9_lot_33 rfl rfl ?_
    refine V_get (v := .ref (ω.2.2.1 57)) K.1 dX9_lot_34 rfl rfl fw_X9_74 rfl rfl ?_
    refine V_iload_n 2 K.1 dX9_lot_37 rfl rfl ?_
    refine V_lconst (v := 0) K.1 dX9_lot_38 (by decide) ?_
    refine V_lastore K.1 dX9_lot_39 rfl (b3 c30) ?_
    refine V_iinc (v := (x2 + 1)) (L' := [(0, .ref (ω.2.2.1 35)), (1, .int x1), (2, .int (x2 + 1))]) 2 K.1 dX9_lot_40 rfl rfl (by decide) rfl ?_
    refine V_goto (tgt := 26) K.1 dX9_lot_43 (by decide) ?_
    exact (k4 c30)
set_option maxRecDepth 20000 in
theorem R_X9_lot_60 {ω : WT} {κ : KT} {l : Launch} {d : Nat} {post : Option Value → St → Prop} {σ : St} {x1 : Int32} {s0 : Int64}  (K : Cm ω κ l yX9_lot cX9_lot 9 d (some .long) post)
    (k1 : V ω κ 67 [(0, .ref (ω.2.2.1 35)), (1, .int x1), (2, .long s0), (4, .long (1 : Int64)), (6, .int (0 : Int32))] [] σ) :
    V ω κ 60 [(0, .ref (ω.2.2.1 35)), (1, .int x1)] [.long s0] σ := by
  refine V_lstore_n (L' := [(0, .ref (ω.2.2.1 35)), (1, .int x1), (2, .long s0)]) K.1 dX9_lot_60 rfl (by decide) rfl ?_
  refine V_lconst (v := 1) K.1 dX9_lot_61 (by decide) ?_
  refine V_lstore (L' := [(0, .ref (ω.2.2.1 35)), (1, .int x1), (2, .long s0), (4, .long (1 : Int64))]) K.1 dX9_lot_62 (by decide) rfl ?_
  refine V_iconst (v := 0) K.1 dX9_lot_64 (by decide) ?_
  refine V_istore (L' := [(0, .ref (ω.2.2.1 35)), (1, .int x1), (2, .long s0), (4, .long (1 : Int64)), (6, .int (0 : Int32))]) K.1 dX9_lot_65 (by decide) rfl ?_
  exact k1
set_option maxRecDepth 20000 in
theorem R_X9_lot_67 {ω : WT} {κ : KT} {l : Launch} {d : Nat} {post : Option Value → St → Prop} {σ : St} {x1 x6 : Int32} {x2 x4 : Int64}  (K : Cm ω κ l yX9_lot cX9_lot 9 d (some .long) post)
    (k1 : (((σ.1 2251) - (1 : Int32)) ≤ x6) → V ω κ 108 [(0, .ref (ω.2.2.1 35)), (1, .int x1), (4, .long x4), (6, .long (0 : Int64)), (8, .int (0 : Int32))] [] σ)
    (b2 : ¬ (((σ.1 2251) - (1 : Int32)) ≤ x6) → vp_in x6 6)
    (k3 : ¬ (((σ.1 2251) - (1 : Int32)) ≤ x6) → V ω κ 87 [(0, .ref (ω.2.2.1 35)), (1, .int x1), (2, .long x2), (4, .long x4), (6, .int x6)] [.long x2, .int (σ.2.1 41 (x6).toNatClampNeg), .ref (ω.2.2.1 35)] σ) :
    V ω κ 67 [(0, .ref (ω.2.2.1 35)), (1, .int x1), (2, .long x2), (4, .long x4), (6, .int x6)] [] σ := by
  refine V_iload 4 K.1 dX9_lot_67 rfl ?_
  refine V_aload_n 0 K.1 dX9_lot_69 rfl rfl ?_
  refine V_get (v := .int (σ.1 2251)) K.1 dX9_lot_70 rfl rfl fw_X9_130 rfl rfl ?_
  refine V_iconst (v := 1) K.1 dX9_lot_73 (by decide) ?_
  refine V_isub K.1 dX9_lot_74 ?_
  refine V_icmp_ge (tgt := 102) K.1 dX9_lot_75 (by decide) (fun c75 => ?_) (fun c75 => ?_)
  · refine V_lconst (v := 0) K.1 dX9_lot_102 (by decide) ?_
    refine V_lstore (L' := [(0, .ref (ω.2.2.1 35)), (1, .int x1), (2, .long x2), (4, .long x4), (6, .long (0 : Int64))]) K.1 dX9_lot_103 (by decide) rfl ?_
    refine V_iconst (v := 0) K.1 dX9_lot_105 (by decide) ?_
    refine V_istore (L' := [(0, .ref (ω.2.2.1 35)), (1, .int x1), (2, .long x2), (4, .long x4), (6, .long (0 : Int64)), (8, .int (0 : Int32))]) K.1 dX9_lot_106 (by decide) rfl ?_
    exact V_sub [0, 1, 3, 4, 5] rfl (k1 c75)
  · refine V_aload_n 0 K.1 dX9_lot_78 rfl rfl ?_
    refine V_aload_n 0 K.1 dX9_lot_79 rfl rfl ?_
    refine V_get (v := .ref (ω.2.2.1 41)) K.1 dX9_lot_80 rfl rfl fw_X9_25 rfl rfl ?_
    refine V_iload 4 K.1 dX9_lot_83 rfl ?_
    refine V_iaload (v := (σ.2.1 41 (x6).toNatClampNeg)) K.1 dX9_lot_85 rfl (b2 c75) rfl ?_
    refine V_lload_n 2 K.1 dX9_lot_86 rfl rfl ?_
    exact (k3 c75)
set_option maxRecDepth 20000 in
theorem R_X9_lot_90 {ω : WT} {κ : KT} {l : Launch} {d : Nat} {post : Option Value → St → Prop} {σ : St} {x1 x6 : Int32} {x2 x4 : Int64}  (K : Cm ω κ l yX9_lot cX9_lot 9 d (some .long) post)
    (k1 : V ω κ 67 [(0, .ref (ω.2.2.1 35)), (1, .int x1), (2, .long x2), (4, .long (x4 * x2)), (6, .int (x6 + 1))] [] σ) :
    V ω κ 90 [(0, .ref (ω.2.2.1 35)), (1, .int x1), (2, .long x2), (4, .long x4), (6, .int x6)] [] σ := by
  refine V_lload 3 K.1 dX9_lot_90 rfl ?_
  refine V_lload_n 2 K.1 dX9_lot_92 rfl rfl ?_
  refine V_lmul K.1 dX9_lot_93 ?_
  refine V_lstore (L' := [(0, .ref (ω.2.2.1 35)), (1, .int x1), (2, .long x2), (4, .long (x4 * x2)), (6, .int x6)]) K.1 dX9_lot_94 (by decide) rfl ?_
  refine V_iinc (v := (x6 + 1)) (L' := [(0, .ref (ω.2.2.1 35)), (1, .int x1), (2, .long x2), (4, .long (x4 * x2)), (6, .int (x6 + 1))]) 4 K.1 dX9_lot_96 rfl rfl (by decide) rfl ?_
  refine V_goto (tgt := 67) K.1 dX9_lot_99 (by decide) ?_
  exact k1
set_option maxRecDepth 20000 in
theorem R_X9_lot_108 {ω : WT} {κ : KT} {l : Launch} {d : Nat} {post : Option Value → St → Prop} {σ : St} {x1 x8 : Int32} {x4 x6 : Int64}  (K : Cm ω κ l yX9_lot cX9_lot 9 d (some .long) post) (hdp : 1 ≤ d)
    (k1 : ((((1 : Int32) <<< ((σ.1 2245) &&& 31)) - (1 : Int32)) < x8) → V ω κ 187 [] [.int x1, .long x4, .long x6] σ)
    (b2 : ¬ ((((1 : Int32) <<< ((σ.1 2245) &&& 31)) - (1 : Int32)) < x8) → vp_in x8 257)
    (k3 : ¬ ((((1 : Int32) <<< ((σ.1 2245) &&& 31)) - (1 : Int32)) < x8) → ((lg_cmp (σ.2.2.2 57 (x8).toNatClampNeg) (0 : Int64)) = 0) → V ω κ 108 [(0, .ref (ω.2.2.1 35)), (1, .int x1), (4, .long x4), (6, .long x6), (8, .int (x8 + 1))] [] σ)
    (b4 : ¬ ((((1 : Int32) <<< ((σ.1 2245) &&& 31)) - (1 : Int32)) < x8) → ¬ ((lg_cmp (σ.2.2.2 57 (x8).toNatClampNeg) (0 : Int64)) = 0) → vp_in ((σ.1 2251) - (1 : Int32)) 6)
    (k5 : ¬ ((((1 : Int32) <<< ((σ.1 2245) &&& 31)) - (1 : Int32)) < x8) → ¬ ((lg_cmp (σ.2.2.2 57 (x8).toNatClampNeg) (0 : Int64)) = 0) → V ω κ 149 [(0, .ref (ω.2.2.1 35)), (1, .int x1), (4, .long x4), (6, .long x6), (8, .int x8)] [.int (0 : Int32), .int (0 : Int32), .int (σ.2.1 41 (((σ.1 2251) - (1 : Int32))).toNatClampNeg), .ref (ω.2.2.1 35)] (pS σ 2258 x8)) :
    V ω κ 108 [(0, .ref (ω.2.2.1 35)), (1, .int x1), (4, .long x4), (6, .long x6), (8, .int x8)] [] σ := by
  refine V_iload 4 K.1 dX9_lot_108 rfl ?_
  refine V_aload_n 0 K.1 dX9_lot_110 rfl rfl ?_
  refine V_callV (d' := d - 1) (As := []) K.1 dX9_lot_111 cw_X9_150 rfl rfl rfl (by omega) rfl (by simp [Value.category]) (m_X9_everyone K.1.wf (by omega)) (go_I ?_)
  refine V_icmp_gt (tgt := 182) K.1 dX9_lot_114 (by decide) (fun c114 => ?_) (fun c114 => ?_)
  · refine V_lload 3 K.1 dX9_lot_182 rfl ?_
    refine V_lload 2 K.1 dX9_lot_184 rfl ?_
    refine V_iload_n 1 K.1 dX9_lot_186 rfl rfl ?_
    exact V_sub [] rfl (k1 c114)
  · refine V_aload_n 0 K.1 dX9_lot_117 rfl rfl ?_
    refine V_get (v := .ref (ω.2.2.1 57)) K.1 dX9_lot_118 rfl rfl fw_X9_74 rfl rfl ?_
    refine V_iload 4 K.1 dX9_lot_121 rfl ?_
    refine V_laload (v := (σ.2.2.2 57 (x8).toNatClampNeg)) K.1 dX9_lot_123 rfl (b2 c114) rfl ?_
    refine V_lconst (v := 0) K.1 dX9_lot_124 (by decide) ?_
    refine V_lcmp K.1 dX9_lot_125 ?_
    refine V_if_eq (tgt := 176) K.1 dX9_lot_126 (by decide) (fun c126 => ?_) (fun c126 => ?_)
    · refine V_iinc (v := (x8 + 1)) (L' := [(0, .ref (ω.2.2.1 35)), (1, .int x1), (4, .long x4), (6, .long x6), (8, .int (x8 + 1))]) 4 K.1 dX9_lot_176 rfl rfl (by decide) rfl ?_
      refine V_goto (tgt := 108) K.1 dX9_lot_179 (by decide) ?_
      exact (k3 c114 c126)
    · refine V_aload_n 0 K.1 dX9_lot_129 rfl rfl ?_
      refine V_iload 4 K.1 dX9_lot_130 rfl ?_
      refine V_putI (key := 2258) K.1 dX9_lot_132 rfl rfl fw_X9_154 pw_X9_18 rfl rfl rfl rfl ?_
      refine V_aload_n 0 K.1 dX9_lot_135 rfl rfl ?_
      refine V_aload_n 0 K.1 dX9_lot_136 rfl rfl ?_
      refine V_get (v := .ref (ω.2.2.1 41)) K.1 dX9_lot_137 rfl rfl fw_X9_25 rfl rfl ?_
      refine V_aload_n 0 K.1 dX9_lot_140 rfl rfl ?_
      refine V_get (v := .int (σ.1 2251)) K.1 dX9_lot_141 rfl rfl fw_X9_130 rfl rfl ?_
      refine V_iconst (v := 1) K.1 dX9_lot_144 (by decide) ?_
      refine V_isub K.1 dX9_lot_145 ?_
      refine V_iaload (v := (σ.2.1 41 (((σ.1 2251) - (1 : Int32))).toNatClampNeg)) K.1 dX9_lot_146 rfl (b4 c114 c126) rfl ?_
      refine V_iconst (v := 0) K.1 dX9_lot_147 (by decide) ?_
      refine V_iconst (v := 0) K.1 dX9_lot_148 (by decide) ?_
      exact (k5 c114 c126)
set_option maxRecDepth 20000 in
theorem R_X9_lot_152 {ω : WT} {κ : KT} {l : Launch} {d : Nat} {post : Option Value → St → Prop} {σ : St} {x1 x8 : Int32} {x4 x6 : Int64}  (K : Cm ω κ l yX9_lot cX9_lot 9 d (some .long) post)
    (b2 : ((σ.1 2265) = (1 : Int32)) → vp_in x8 257)
    (k3 : V ω κ 108 [(0, .ref (ω.2.2.1 35)), (1, .int x1), (4, .long x4), (6, .long (x6 + (if ((σ.1 2265) = (1 : Int32)) then (σ.2.2.2 57 (x8).toNatClampNeg) else (0 : Int64)))), (8, .int (x8 + 1))] [] σ) :
    V ω κ 152 [(0, .ref (ω.2.2.1 35)), (1, .int x1), (4, .long x4), (6, .long x6), (8, .int x8)] [] σ := by
  refine V_lload 3 K.1 dX9_lot_152 rfl ?_
  refine V_aload_n 0 K.1 dX9_lot_154 rfl rfl ?_
  refine V_get (v := .int (σ.1 2265)) K.1 dX9_lot_155 rfl rfl fw_X9_180 rfl rfl ?_
  refine V_iconst (v := 1) K.1 dX9_lot_158 (by decide) ?_
  refine V_join (J := 173) (S := [.long x6]) (v := .long (if ((σ.1 2265) = (1 : Int32)) then (σ.2.2.2 57 (x8).toNatClampNeg) else (0 : Int64))) (fun hJ1 => ?_) ?_
  · refine V_icmp_ne (tgt := 172) K.1 dX9_lot_159 (by decide) (fun c159 => ?_) (fun c159 => ?_)
    · refine V_lconst (v := 0) K.1 dX9_lot_172 (by decide) ?_
      exact V_topJ (if_neg c159) hJ1
    · refine V_aload_n 0 K.1 dX9_lot_162 rfl rfl ?_
      refine V_get (v := .ref (ω.2.2.1 57)) K.1 dX9_lot_163 rfl rfl fw_X9_74 rfl rfl ?_
      refine V_iload 4 K.1 dX9_lot_166 rfl ?_
      refine V_laload (v := (σ.2.2.2 57 (x8).toNatClampNeg)) K.1 dX9_lot_168 rfl (b2 c159) rfl ?_
      refine V_goto (tgt := 173) K.1 dX9_lot_169 (by decide) ?_
      exact V_topJ (if_pos c159) hJ1
  refine V_ladd K.1 dX9_lot_173 ?_
  refine V_lstore (L' := [(0, .ref (ω.2.2.1 35)), (1, .int x1), (4, .long x4), (6, .long (x6 + (if ((σ.1 2265) = (1 : Int32)) then (σ.2.2.2 57 (x8).toNatClampNeg) else (0 : Int64)))), (8, .int x8)]) K.1 dX9_lot_174 (by decide) rfl ?_
  refine V_iinc (v := (x8 + 1)) (L' := [(0, .ref (ω.2.2.1 35)), (1, .int x1), (4, .long x4), (6, .long (x6 + (if ((σ.1 2265) = (1 : Int32)) then (σ.2.2.2 57 (x8).toNatClampNeg) else (0 : Int64)))), (8, .int (x8 + 1))]) 4 K.1 dX9_lot_176 rfl rfl (by decide) rfl ?_
  refine V_goto (tgt := 108) K.1 dX9_lot_179 (by decide) ?_
  exact k3
set_option maxRecDepth 20000 in
theorem R_X9_lot_190 {ω : WT} {κ : KT} {l : Launch} {d : Nat} {post : Option Value → St → Prop} {σ : St} {s0 : Int64}  (K : Cm ω κ l yX9_lot cX9_lot 9 d (some .long) post)
    (k1 : post (some (.long s0)) σ) :
    V ω κ 190 [] [.long s0] σ := by
  exact V_lret K dX9_lot_190 k1
set_option maxRecDepth 20000 in
theorem C_X9_lot_57 {ω : WT} {κ : KT} {l : Launch} {d : Nat} {post : Option Value → St → Prop} {σ : St} {x1 : Int32}  {post' : Option Value → St → Prop} (K : Cm ω κ l yX9_lot cX9_lot 9 d (some .long) post) (hdp : 1 ≤ d) (hM : Sp ω l yX9_allWays cX9_allWays 6 (some .long) (d - 1) [.ref (ω.2.2.1 35)] σ post')
    (kk : ∀ (v : Option Value) (σ' : St), post' v σ' → V ω κ 60 [(0, .ref (ω.2.2.1 35)), (1, .int x1)] (v.toList ++ []) σ') : V ω κ 57 [(0, .ref (ω.2.2.1 35)), (1, .int x1)] [.ref (ω.2.2.1 35)] σ := by
  exact V_callV (d' := d - 1) (As := []) (rest := []) K.1 dX9_lot_57 cw_X9_276 rfl rfl rfl (by omega) rfl (by simp [Value.category]) hM (fun v σ' h => kk v σ' h)
set_option maxRecDepth 20000 in
theorem C_X9_lot_87 {ω : WT} {κ : KT} {l : Launch} {d : Nat} {post : Option Value → St → Prop} {σ : St} {x1 x6 s1 : Int32} {x2 x4 s2 : Int64}  {post' : Option Value → St → Prop} (K : Cm ω κ l yX9_lot cX9_lot 9 d (some .long) post) (hdp : 1 ≤ d) (hM : Sp ω l yX9_goLot cX9_goLot 5 none (d - 1) [.ref (ω.2.2.1 35), .int s1, .long s2] σ post')
    (kk : ∀ (v : Option Value) (σ' : St), post' v σ' → V ω κ 90 [(0, .ref (ω.2.2.1 35)), (1, .int x1), (2, .long x2), (4, .long x4), (6, .int x6)] (v.toList ++ []) σ') : V ω κ 87 [(0, .ref (ω.2.2.1 35)), (1, .int x1), (2, .long x2), (4, .long x4), (6, .int x6)] [.long s2, .int s1, .ref (ω.2.2.1 35)] σ := by
  exact V_callV (d' := d - 1) (As := [.int s1, .long s2]) (rest := []) K.1 dX9_lot_87 cw_X9_280 rfl rfl rfl (by omega) rfl (by simp [Value.category]) hM (fun v σ' h => kk v σ' h)
set_option maxRecDepth 20000 in
theorem C_X9_lot_149 {ω : WT} {κ : KT} {l : Launch} {d : Nat} {post : Option Value → St → Prop} {σ : St} {x1 x8 s1 s2 s3 : Int32} {x4 x6 : Int64}  {post' : Option Value → St → Prop} (K : Cm ω κ l yX9_lot cX9_lot 9 d (some .long) post) (hdp : 1 ≤ d) (hM : Sp ω l yX9_poll cX9_poll 9 none (d - 1) [.ref (ω.2.2.1 35), .int s1, .int s2, .int s3] σ post')
    (kk : ∀ (v : Option Value) (σ' : St), post' v σ' → V ω κ 152 [(0, .ref (ω.2.2.1 35)), (1, .int x1), (4, .long x4), (6, .long x6), (8, .int x8)] (v.toList ++ []) σ') : V ω κ 149 [(0, .ref (ω.2.2.1 35)), (1, .int x1), (4, .long x4), (6, .long x6), (8, .int x8)] [.int s3, .int s2, .int s1, .ref (ω.2.2.1 35)] σ := by
  exact V_callV (d' := d - 1) (As := [.int s1, .int s2, .int s3]) (rest := []) K.1 dX9_lot_149 cw_X9_195 rfl rfl rfl (by omega) rfl (by simp [Value.category]) hM (fun v σ' h => kk v σ' h)
set_option maxRecDepth 20000 in
theorem C_X9_lot_187 {ω : WT} {κ : KT} {l : Launch} {d : Nat} {post : Option Value → St → Prop} {σ : St} {s2 : Int32} {s0 s1 : Int64}  {post' : Option Value → St → Prop} (K : Cm ω κ l yX9_lot cX9_lot 9 d (some .long) post) (hdp : 1 ≤ d) (hM : Sp ω l yX9_share cX9_share 11 (some .long) (d - 1) [.long s0, .long s1, .int s2] σ post')
    (kk : ∀ (v : Option Value) (σ' : St), post' v σ' → V ω κ 190 [] (v.toList ++ []) σ') : V ω κ 187 [] [.int s2, .long s1, .long s0] σ := by
  exact V_callS (d' := d - 1) (As := [.long s0, .long s1, .int s2]) (rest := []) K.1 dX9_lot_187 cw_X9_284 rfl (by omega) rfl (by simp [Value.category]) hM (fun v σ' h => kk v σ' h)
