set_option maxRecDepth 20000 in
theorem R_X4_mattersToPut_0 {ω : WT} {κ : KT} {l : Launch} {d : Nat} {post : Option Value → St → Prop} {σ : St}  (K : Cm ω κ l yX4_mattersToPut cX4_mattersToPut 3 d (some .int) post)
    (k1 : V ω κ 4 [(0, .ref (ω.2.2.1 28)), (1, .int (0 : Int32)), (2, .int (0 : Int32))] [] σ) :
    V ω κ 0 [(0, .ref (ω.2.2.1 28))] [] σ := by
  refine V_iconst (v := 0) K.1 dX4_mattersToPut_0 (by decide) ?_
  refine V_istore_n (L' := [(0, .ref (ω.2.2.1 28)), (1, .int (0 : Int32))]) K.1 dX4_mattersToPut_1 rfl (by decide) rfl ?_
  refine V_iconst (v := 0) K.1 dX4_mattersToPut_2 (by decide) ?_
  refine V_istore_n (L' := [(0, .ref (ω.2.2.1 28)), (1, .int (0 : Int32)), (2, .int (0 : Int32))]) K.1 dX4_mattersToPut_3 rfl (by decide) rfl ?_
  exact k1
set_option maxRecDepth 20000 in
theorem R_X4_mattersToPut_4 {ω : WT} {κ : KT} {l : Launch} {d : Nat} {post : Option Value → St → Prop} {σ : St} {x1 x2 : Int32}  (K : Cm ω κ l yX4_mattersToPut cX4_mattersToPut 3 d (some .int) post)
    (k1 : ((σ.1 644) ≤ x2) → post (some (.int x1)) σ)
    (b2 : ¬ ((σ.1 644) ≤ x2) → vp_in x2 6)
    (k3 : ¬ ((σ.1 644) ≤ x2) → V ω κ 4 [(0, .ref (ω.2.2.1 28)), (1, .int (x1 ||| ((1 : Int32) <<< ((σ.2.1 13 (x2).toNatClampNeg) &&& 31)))), (2, .int (x2 + 1))] [] σ) :
    V ω κ 4 [(0, .ref (ω.2.2.1 28)), (1, .int x1), (2, .int x2)] [] σ := by
  refine V_iload_n 2 K.1 dX4_mattersToPut_4 rfl rfl ?_
  refine V_aload_n 0 K.1 dX4_mattersToPut_5 rfl rfl ?_
  refine V_get (v := .ref (ω.2.2.1 10)) K.1 dX4_mattersToPut_6 rfl rfl fw_X4_18 rfl rfl ?_
  refine V_get (v := .int (σ.1 644)) K.1 dX4_mattersToPut_9 rfl rfl fw_X4_47 rfl rfl ?_
  refine V_icmp_ge (tgt := 35) K.1 dX4_mattersToPut_12 (by decide) (fun c12 => ?_) (fun c12 => ?_)
  · refine V_iload_n 1 K.1 dX4_mattersToPut_35 rfl rfl ?_
    exact V_iret K dX4_mattersToPut_36 (k1 c12)
  · refine V_iload_n 1 K.1 dX4_mattersToPut_15 rfl rfl ?_
    refine V_iconst (v := 1) K.1 dX4_mattersToPut_16 (by decide) ?_
    refine V_aload_n 0 K.1 dX4_mattersToPut_17 rfl rfl ?_
    refine V_get (v := .ref (ω.2.2.1 10)) K.1 dX4_mattersToPut_18 rfl rfl fw_X4_18 rfl rfl ?_
    refine V_get (v := .ref (ω.2.2.1 13)) K.1 dX4_mattersToPut_21 rfl rfl fw_X4_53 rfl rfl ?_
    refine V_iload_n 2 K.1 dX4_mattersToPut_24 rfl rfl ?_
    refine V_iaload (v := (σ.2.1 13 (x2).toNatClampNeg)) K.1 dX4_mattersToPut_25 rfl (b2 c12) rfl ?_
    refine V_ishl K.1 dX4_mattersToPut_26 ?_
    refine V_ior K.1 dX4_mattersToPut_27 ?_
    refine V_istore_n (L' := [(0, .ref (ω.2.2.1 28)), (1, .int (x1 ||| ((1 : Int32) <<< ((σ.2.1 13 (x2).toNatClampNeg) &&& 31)))), (2, .int x2)]) K.1 dX4_mattersToPut_28 rfl (by decide) rfl ?_
    refine V_iinc (v := (x2 + 1)) (L' := [(0, .ref (ω.2.2.1 28)), (1, .int (x1 ||| ((1 : Int32) <<< ((σ.2.1 13 (x2).toNatClampNeg) &&& 31)))), (2, .int (x2 + 1))]) 2 K.1 dX4_mattersToPut_29 rfl rfl (by decide) rfl ?_
    refine V_goto (tgt := 4) K.1 dX4_mattersToPut_32 (by decide) ?_
    exact (k3 c12)
set_option maxRecDepth 20000 in
theorem R_X4_keepFirst_0 {ω : WT} {κ : KT} {l : Launch} {d : Nat} {post : Option Value → St → Prop} {σ : St} {x1 x2 : Int32}  (K : Cm ω κ l yX4_keepFirst cX4_keepFirst 5 d none post) (hdp : 2 ≤ d)
    (q1 : ((σ.1 1795) = 0) → ¬ (0 : Int32) < 0)
    (q2 : ((σ.1 1795) = 0) → ¬ (0 : Int32) < 0)
    (q3 : ((σ.1 1795) = 0) → ¬ (x1 + (1 : Int32)) < 0)
    (q4 : ((σ.1 1795) = 0) → ((0 : Int32)).toNatClampNeg + ((x1 + (1 : Int32))).toNatClampNeg ≤ 6)
    (q5 : ((σ.1 1795) = 0) → ((0 : Int32)).toNatClampNeg + ((x1 + (1 : Int32))).toNatClampNeg ≤ 6)
    (k6 : ((σ.1 1795) = 0) → V ω κ 36 [(0, .ref (ω.2.2.1 28)), (2, .int x2), (3, .int (x1 + (1 : Int32))), (4, .int (0 : Int32))] [] (pF (pS σ 1795 (1 : Int32)) 30 (va_cpy ((pS σ 1795 (1 : Int32)).2.1 29) ((pS σ 1795 (1 : Int32)).2.1 30) ((0 : Int32)).toNatClampNeg ((0 : Int32)).toNatClampNeg ((x1 + (1 : Int32))).toNatClampNeg)))
    (k7 : ¬ ((σ.1 1795) = 0) → post none σ) :
    V ω κ 0 [(0, .ref (ω.2.2.1 28)), (1, .int x1), (2, .int x2)] [] σ := by
  refine V_aload_n 0 K.1 dX4_keepFirst_0 rfl rfl ?_
  refine V_get (v := .int (σ.1 1795)) K.1 dX4_keepFirst_1 rfl rfl fw_X4_26 rfl rfl ?_
  refine V_if_eq (tgt := 8) K.1 dX4_keepFirst_4 (by decide) (fun c4 => ?_) (fun c4 => ?_)
  · refine V_aload_n 0 K.1 dX4_keepFirst_8 rfl rfl ?_
    refine V_iconst (v := 1) K.1 dX4_keepFirst_9 (by decide) ?_
    refine V_putI (key := 1795) K.1 dX4_keepFirst_10 rfl rfl fw_X4_26 pw_X4_3 rfl (narZ (Or.inr rfl)) (fitZ (Or.inr rfl)) rfl ?_
    refine V_aload_n 0 K.1 dX4_keepFirst_13 rfl rfl ?_
    refine V_get (v := .ref (ω.2.2.1 29)) K.1 dX4_keepFirst_14 rfl rfl fw_X4_9 rfl rfl ?_
    refine V_iconst (v := 0) K.1 dX4_keepFirst_17 (by decide) ?_
    refine V_aload_n 0 K.1 dX4_keepFirst_18 rfl rfl ?_
    refine V_get (v := .ref (ω.2.2.1 30)) K.1 dX4_keepFirst_19 rfl rfl fw_X4_15 rfl rfl ?_
    refine V_iconst (v := 0) K.1 dX4_keepFirst_22 (by decide) ?_
    refine V_iload_n 1 K.1 dX4_keepFirst_23 rfl rfl ?_
    refine V_iconst (v := 1) K.1 dX4_keepFirst_24 (by decide) ?_
    refine V_iadd K.1 dX4_keepFirst_25 ?_
    refine V_copyI K.1 dX4_keepFirst_26 cp_X4_76 rfl rfl (q1 c4) (q2 c4) (q3 c4) (q4 c4) (q5 c4) (by omega) (by decide) ?_
    refine V_iload_n 1 K.1 dX4_keepFirst_29 rfl rfl ?_
    refine V_iconst (v := 1) K.1 dX4_keepFirst_30 (by decide) ?_
    refine V_iadd K.1 dX4_keepFirst_31 ?_
    refine V_istore_n (L' := [(0, .ref (ω.2.2.1 28)), (1, .int x1), (2, .int x2), (3, .int (x1 + (1 : Int32)))]) K.1 dX4_keepFirst_32 rfl (by decide) rfl ?_
    refine V_iconst (v := 0) K.1 dX4_keepFirst_33 (by decide) ?_
    refine V_istore (L' := [(0, .ref (ω.2.2.1 28)), (1, .int x1), (2, .int x2), (3, .int (x1 + (1 : Int32))), (4, .int (0 : Int32))]) K.1 dX4_keepFirst_34 (by decide) rfl ?_
    exact V_sub [0, 2, 3, 4] rfl (k6 c4)
  · exact V_vret K dX4_keepFirst_7 (k7 c4)
set_option maxRecDepth 20000 in
theorem R_X4_keepFirst_36 {ω : WT} {κ : KT} {l : Launch} {d : Nat} {post : Option Value → St → Prop} {σ : St} {x2 x3 x4 : Int32}  (K : Cm ω κ l yX4_keepFirst cX4_keepFirst 5 d none post)
    (k1 : ((σ.1 641) ≤ x4) → post none σ)
    (k2 : ¬ ((σ.1 641) ≤ x4) → ((6 : Int32) ≤ x3) → post none σ)
    (k3 : ¬ ((σ.1 641) ≤ x4) → ¬ ((6 : Int32) ≤ x3) → (((x2 >>> (x4 &&& 31)) &&& (1 : Int32)) = 0) → V ω κ 36 [(0, .ref (ω.2.2.1 28)), (2, .int x2), (3, .int x3), (4, .int (x4 + 1))] [] σ)
    (b4 : ¬ ((σ.1 641) ≤ x4) → ¬ ((6 : Int32) ≤ x3) → ¬ (((x2 >>> (x4 &&& 31)) &&& (1 : Int32)) = 0) → vp_in x3 6)
    (k5 : ¬ ((σ.1 641) ≤ x4) → ¬ ((6 : Int32) ≤ x3) → ¬ (((x2 >>> (x4 &&& 31)) &&& (1 : Int32)) = 0) → V ω κ 36 [(0, .ref (ω.2.2.1 28)), (2, .int x2), (3, .int (x3 + 1)), (4, .int (x4 + 1))] [] (pA σ 30 (x3).toNatClampNeg x4)) :
    V ω κ 36 [(0, .ref (ω.2.2.1 28)), (2, .int x2), (3, .int x3), (4, .int x4)] [] σ := by
  refine V_iload 3 K.1 dX4_keepFirst_36 rfl ?_
  refine V_aload_n 0 K.1 dX4_keepFirst_38 rfl rfl ?_
  refine V_get (v := .ref (ω.2.2.1 10)) K.1 dX4_keepFirst_39 rfl rfl fw_X4_18 rfl rfl ?_
  refine V_get (v := .int (σ.1 641)) K.1 dX4_keepFirst_42 rfl rfl fw_X4_56 rfl rfl ?_
  refine V_icmp_ge (tgt := 80) K.1 dX4_keepFirst_45 (by decide) (fun c45 => ?_) (fun c45 => ?_)
  · exact V_vret K dX4_keepFirst_80 (k1 c45)
  · refine V_iload_n 2 K.1 dX4_keepFirst_48 rfl rfl ?_
    refine V_bipush (v := 6) K.1 dX4_keepFirst_49 (by decide) ?_
    refine V_icmp_ge (tgt := 80) K.1 dX4_keepFirst_51 (by decide) (fun c51 => ?_) (fun c51 => ?_)
    · exact V_vret K dX4_keepFirst_80 (k2 c45 c51)
    · refine V_iload_n 1 K.1 dX4_keepFirst_54 rfl rfl ?_
      refine V_iload 3 K.1 dX4_keepFirst_55 rfl ?_
      refine V_ishr K.1 dX4_keepFirst_57 ?_
      refine V_iconst (v := 1) K.1 dX4_keepFirst_58 (by decide) ?_
      refine V_iand K.1 dX4_keepFirst_59 ?_
      refine V_if_eq (tgt := 74) K.1 dX4_keepFirst_60 (by decide) (fun c60 => ?_) (fun c60 => ?_)
      · refine V_iinc (v := (x4 + 1)) (L' := [(0, .ref (ω.2.2.1 28)), (2, .int x2), (3, .int x3), (4, .int (x4 + 1))]) 3 K.1 dX4_keepFirst_74 rfl rfl (by decide) rfl ?_
        refine V_goto (tgt := 36) K.1 dX4_keepFirst_77 (by decide) ?_
        exact (k3 c45 c51 c60)
      · refine V_aload_n 0 K.1 dX4_keepFirst_63 rfl rfl ?_
        refine V_get (v := .ref (ω.2.2.1 30)) K.1 dX4_keepFirst_64 rfl rfl fw_X4_15 rfl rfl ?_
        refine V_iload_n 2 K.1 dX4_keepFirst_67 rfl rfl ?_
        refine V_iload 3 K.1 dX4_keepFirst_68 rfl ?_
        refine V_iastore K.1 dX4_keepFirst_70 rfl (b4 c45 c51 c60) ?_
        refine V_iinc (v := (x3 + 1)) (L' := [(0, .ref (ω.2.2.1 28)), (2, .int x2), (3, .int (x3 + 1)), (4, .int x4)]) 2 K.1 dX4_keepFirst_71 rfl rfl (by decide) rfl ?_
        refine V_iinc (v := (x4 + 1)) (L' := [(0, .ref (ω.2.2.1 28)), (2, .int x2), (3, .int (x3 + 1)), (4, .int (x4 + 1))]) 3 K.1 dX4_keepFirst_74 rfl rfl (by decide) rfl ?_
        refine V_goto (tgt := 36) K.1 dX4_keepFirst_77 (by decide) ?_
        exact (k5 c45 c51 c60)
set_option maxRecDepth 20000 in
theorem R_X4_countFrom_0 {ω : WT} {κ : KT} {l : Launch} {d : Nat} {post : Option Value → St → Prop} {σ : St} {x1 x2 x3 x4 : Int32}  (K : Cm ω κ l yX4_countFrom cX4_countFrom 9 d (some .int) post)
    (k1 : (x1 < (σ.1 644)) → V ω κ 19 [(0, .ref (ω.2.2.1 28)), (1, .int x1), (2, .int x2), (3, .int x3), (4, .int x4), (5, .int (0 : Int32)), (6, .int (0 : Int32))] [] σ)
    (k2 : ¬ (x1 < (σ.1 644)) → post (some (.int (0 : Int32))) σ) :
    V ω κ 0 [(0, .ref (ω.2.2.1 28)), (1, .int x1), (2, .int x2), (3, .int x3), (4, .int x4)] [] σ := by
  refine V_iload_n 1 K.1 dX4_countFrom_0 rfl rfl ?_
  refine V_aload_n 0 K.1 dX4_countFrom_1 rfl rfl ?_
  refine V_get (v := .ref (ω.2.2.1 10)) K.1 dX4_countFrom_2 rfl rfl fw_X4_18 rfl rfl ?_
  refine V_get (v := .int (σ.1 644)) K.1 dX4_countFrom_5 rfl rfl fw_X4_47 rfl rfl ?_
  refine V_icmp_lt (tgt := 13) K.1 dX4_countFrom_8 (by decide) (fun c8 => ?_) (fun c8 => ?_)
  · refine V_iconst (v := 0) K.1 dX4_countFrom_13 (by decide) ?_
    refine V_istore (L' := [(0, .ref (ω.2.2.1 28)), (1, .int x1), (2, .int x2), (3, .int x3), (4, .int x4), (5, .int (0 : Int32))]) K.1 dX4_countFrom_14 (by decide) rfl ?_
    refine V_iconst (v := 0) K.1 dX4_countFrom_16 (by decide) ?_
    refine V_istore (L' := [(0, .ref (ω.2.2.1 28)), (1, .int x1), (2, .int x2), (3, .int x3), (4, .int x4), (5, .int (0 : Int32)), (6, .int (0 : Int32))]) K.1 dX4_countFrom_17 (by decide) rfl ?_
    exact (k1 c8)
  · refine V_iconst (v := 0) K.1 dX4_countFrom_11 (by decide) ?_
    exact V_iret K dX4_countFrom_12 (k2 c8)
set_option maxRecDepth 20000 in
theorem R_X4_countFrom_19 {ω : WT} {κ : KT} {l : Launch} {d : Nat} {post : Option Value → St → Prop} {σ : St} {x1 x2 x3 x4 x5 x6 : Int32}  (K : Cm ω κ l yX4_countFrom cX4_countFrom 9 d (some .int) post)
    (k1 : ((σ.1 641) ≤ x6) → post (some (.int x5)) σ)
    (k2 : ¬ ((σ.1 641) ≤ x6) → (((x2 >>> (x6 &&& 31)) &&& (1 : Int32)) = 0) → V ω κ 19 [(0, .ref (ω.2.2.1 28)), (1, .int x1), (2, .int x2), (3, .int x3), (4, .int x4), (5, .int x5), (6, .int (x6 + 1))] [] σ)
    (b3 : ¬ ((σ.1 641) ≤ x6) → ¬ (((x2 >>> (x6 &&& 31)) &&& (1 : Int32)) = 0) → vp_in x1 6)
    (b4 : ¬ ((σ.1 641) ≤ x6) → ¬ (((x2 >>> (x6 &&& 31)) &&& (1 : Int32)) = 0) → vp_in x6 6)
    (k5 : ¬ ((σ.1 641) ≤ x6) → ¬ (((x2 >>> (x6 &&& 31)) &&& (1 : Int32)) = 0) → V ω κ 74 [(0, .ref (ω.2.2.1 28)), (1, .int x1), (2, .int x2), (3, .int x3), (4, .int x4), (5, .int x5), (6, .int x6), (7, .int (x2 &&& (((1 : Int32) <<< (x6 &&& 31)) ^^^ (-1 : Int32))))] [.int (0 : Int32), .int (σ.2.1 12 (x6).toNatClampNeg), .int x3, .ref (ω.2.2.1 14)] (pA σ 29 (x1).toNatClampNeg x6)) :
    V ω κ 19 [(0, .ref (ω.2.2.1 28)), (1, .int x1), (2, .int x2), (3, .int x3), (4, .int x4), (5, .int x5), (6, .int x6)] [] σ := by
  refine V_iload 6 K.1 dX4_countFrom_19 rfl ?_
  refine V_aload_n 0 K.1 dX4_countFrom_21 rfl rfl ?_
  refine V_get (v := .ref (ω.2.2.1 10)) K.1 dX4_countFrom_22 rfl rfl fw_X4_18 rfl rfl ?_
  refine V_get (v := .int (σ.1 641)) K.1 dX4_countFrom_25 rfl rfl fw_X4_56 rfl rfl ?_
  refine V_icmp_ge (tgt := 151) K.1 dX4_countFrom_28 (by decide) (fun c28 => ?_) (fun c28 => ?_)
  · refine V_iload 5 K.1 dX4_countFrom_151 rfl ?_
    exact V_iret K dX4_countFrom_153 (k1 c28)
  · refine V_iload_n 2 K.1 dX4_countFrom_31 rfl rfl ?_
    refine V_iload 6 K.1 dX4_countFrom_32 rfl ?_
    refine V_ishr K.1 dX4_countFrom_34 ?_
    refine V_iconst (v := 1) K.1 dX4_countFrom_35 (by decide) ?_
    refine V_iand K.1 dX4_countFrom_36 ?_
    refine V_if_eq (tgt := 145) K.1 dX4_countFrom_37 (by decide) (fun c37 => ?_) (fun c37 => ?_)
    · refine V_iinc (v := (x6 + 1)) (L' := [(0, .ref (ω.2.2.1 28)), (1, .int x1), (2, .int x2), (3, .int x3), (4, .int x4), (5, .int x5), (6, .int (x6 + 1))]) 6 K.1 dX4_countFrom_145 rfl rfl (by decide) rfl ?_
      refine V_goto (tgt := 19) K.1 dX4_countFrom_148 (by decide) ?_
      exact (k2 c28 c37)
    · refine V_aload_n 0 K.1 dX4_countFrom_40 rfl rfl ?_
      refine V_get (v := .ref (ω.2.2.1 29)) K.1 dX4_countFrom_41 rfl rfl fw_X4_9 rfl rfl ?_
      refine V_iload_n 1 K.1 dX4_countFrom_44 rfl rfl ?_
      refine V_iload 6 K.1 dX4_countFrom_45 rfl ?_
      refine V_iastore K.1 dX4_countFrom_47 rfl (b3 c28 c37) ?_
      refine V_iload_n 2 K.1 dX4_countFrom_48 rfl rfl ?_
      refine V_iconst (v := 1) K.1 dX4_countFrom_49 (by decide) ?_
      refine V_iload 6 K.1 dX4_countFrom_50 rfl ?_
      refine V_ishl K.1 dX4_countFrom_52 ?_
      refine V_iconst (v := -1) K.1 dX4_countFrom_53 (by decide) ?_
      refine V_ixor K.1 dX4_countFrom_54 ?_
      refine V_iand K.1 dX4_countFrom_55 ?_
      refine V_istore (L' := [(0, .ref (ω.2.2.1 28)), (1, .int x1), (2, .int x2), (3, .int x3), (4, .int x4), (5, .int x5), (6, .int x6), (7, .int (x2 &&& (((1 : Int32) <<< (x6 &&& 31)) ^^^ (-1 : Int32))))]) K.1 dX4_countFrom_56 (by decide) rfl ?_
      refine V_aload_n 0 K.1 dX4_countFrom_58 rfl rfl ?_
      refine V_get (v := .ref (ω.2.2.1 14)) K.1 dX4_countFrom_59 rfl rfl fw_X4_22 rfl rfl ?_
      refine V_iload_n 3 K.1 dX4_countFrom_62 rfl rfl ?_
      refine V_aload_n 0 K.1 dX4_countFrom_63 rfl rfl ?_
      refine V_get (v := .ref (ω.2.2.1 10)) K.1 dX4_countFrom_64 rfl rfl fw_X4_18 rfl rfl ?_
      refine V_get (v := .ref (ω.2.2.1 12)) K.1 dX4_countFrom_67 rfl rfl fw_X4_59 rfl rfl ?_
      refine V_iload 6 K.1 dX4_countFrom_70 rfl ?_
      refine V_iaload (v := (σ.2.1 12 (x6).toNatClampNeg)) K.1 dX4_countFrom_72 rfl (b4 c28 c37) rfl ?_
      refine V_iconst (v := 0) K.1 dX4_countFrom_73 (by decide) ?_
      exact (k5 c28 c37)
set_option maxRecDepth 20000 in
theorem R_X4_countFrom_77 {ω : WT} {κ : KT} {l : Launch} {d : Nat} {post : Option Value → St → Prop} {σ : St} {x1 x2 x3 x4 x5 x6 x7 s0 : Int32}  (K : Cm ω κ l yX4_countFrom cX4_countFrom 9 d (some .int) post)
    (k1 : (x6 = x4) → ¬ ((σ.1 900) = (1 : Int32)) → V ω κ 19 [(0, .ref (ω.2.2.1 28)), (1, .int x1), (2, .int x2), (3, .int x3), (4, .int x4), (5, .int x5), (6, .int (x6 + 1))] [] σ)
    (b2 : (x6 = x4) → ((σ.1 900) = (1 : Int32)) → vp_in (((σ.1 644) - x1) - (1 : Int32)) 7)
    (k3 : (x6 = x4) → ((σ.1 900) = (1 : Int32)) → V ω κ 142 [(0, .ref (ω.2.2.1 28)), (1, .int x1), (2, .int x2), (3, .int x3), (4, .int x4), (5, .int (x5 + (nI (([1, 1, 2, 6, 24, 120, 720] : List Nat).getD ((((σ.1 644) - x1) - (1 : Int32))).toNatClampNeg 0)))), (6, .int x6)] [.int x7, .int x1, .ref (ω.2.2.1 28)] σ)
    (k4 : ¬ (x6 = x4) → V ω κ 98 [(0, .ref (ω.2.2.1 28)), (1, .int x1), (2, .int x2), (3, .int x3), (4, .int x4), (6, .int x6)] [.int x4, .int s0, .int x7, .int (x1 + (1 : Int32)), .ref (ω.2.2.1 28), .int x5] σ) :
    V ω κ 77 [(0, .ref (ω.2.2.1 28)), (1, .int x1), (2, .int x2), (3, .int x3), (4, .int x4), (5, .int x5), (6, .int x6), (7, .int x7)] [.int s0] σ := by
  refine V_istore (L' := [(0, .ref (ω.2.2.1 28)), (1, .int x1), (2, .int x2), (3, .int x3), (4, .int x4), (5, .int x5), (6, .int x6), (7, .int x7), (8, .int s0)]) K.1 dX4_countFrom_77 (by decide) rfl ?_
  refine V_iload 6 K.1 dX4_countFrom_79 rfl ?_
  refine V_iload 4 K.1 dX4_countFrom_81 rfl ?_
  refine V_icmp_eq (tgt := 107) K.1 dX4_countFrom_83 (by decide) (fun c83 => ?_) (fun c83 => ?_)
  · refine V_aload_n 0 K.1 dX4_countFrom_107 rfl rfl ?_
    refine V_get (v := .ref (ω.2.2.1 14)) K.1 dX4_countFrom_108 rfl rfl fw_X4_22 rfl rfl ?_
    refine V_get (v := .int (σ.1 900)) K.1 dX4_countFrom_111 rfl rfl fw_X4_66 rfl rfl ?_
    refine V_iconst (v := 1) K.1 dX4_countFrom_114 (by decide) ?_
    refine V_icmp_ne (tgt := 145) K.1 dX4_countFrom_115 (by decide) (fun c115 => ?_) (fun c115 => ?_)
    · refine V_iinc (v := (x6 + 1)) (L' := [(0, .ref (ω.2.2.1 28)), (1, .int x1), (2, .int x2), (3, .int x3), (4, .int x4), (5, .int x5), (6, .int (x6 + 1)), (7, .int x7), (8, .int s0)]) 6 K.1 dX4_countFrom_145 rfl rfl (by decide) rfl ?_
      refine V_goto (tgt := 19) K.1 dX4_countFrom_148 (by decide) ?_
      exact V_sub [0, 1, 2, 3, 4, 5, 6] rfl (k1 c83 c115)
    · refine V_iload 5 K.1 dX4_countFrom_118 rfl ?_
      refine V_getstatic K.1 dX4_countFrom_120 fw_X4_69 ?_
      refine V_aload_n 0 K.1 dX4_countFrom_123 rfl rfl ?_
      refine V_get (v := .ref (ω.2.2.1 10)) K.1 dX4_countFrom_124 rfl rfl fw_X4_18 rfl rfl ?_
      refine V_get (v := .int (σ.1 644)) K.1 dX4_countFrom_127 rfl rfl fw_X4_47 rfl rfl ?_
      refine V_iload_n 1 K.1 dX4_countFrom_130 rfl rfl ?_
      refine V_isub K.1 dX4_countFrom_131 ?_
      refine V_iconst (v := 1) K.1 dX4_countFrom_132 (by decide) ?_
      refine V_isub K.1 dX4_countFrom_133 ?_
      refine V_ialoadT K.1 dX4_countFrom_134 (b2 c83 c115) rfl ?_
      refine V_iadd K.1 dX4_countFrom_135 ?_
      refine V_istore (L' := [(0, .ref (ω.2.2.1 28)), (1, .int x1), (2, .int x2), (3, .int x3), (4, .int x4), (5, .int (x5 + (nI (([1, 1, 2, 6, 24, 120, 720] : List Nat).getD ((((σ.1 644) - x1) - (1 : Int32))).toNatClampNeg 0)))), (6, .int x6), (7, .int x7), (8, .int s0)]) K.1 dX4_countFrom_136 (by decide) rfl ?_
      refine V_aload_n 0 K.1 dX4_countFrom_138 rfl rfl ?_
      refine V_iload_n 1 K.1 dX4_countFrom_139 rfl rfl ?_
      refine V_iload 7 K.1 dX4_countFrom_140 rfl ?_
      exact V_sub [0, 1, 2, 3, 4, 5, 6] rfl (k3 c83 c115)
  · refine V_iload 5 K.1 dX4_countFrom_86 rfl ?_
    refine V_aload_n 0 K.1 dX4_countFrom_88 rfl rfl ?_
    refine V_iload_n 1 K.1 dX4_countFrom_89 rfl rfl ?_
    refine V_iconst (v := 1) K.1 dX4_countFrom_90 (by decide) ?_
    refine V_iadd K.1 dX4_countFrom_91 ?_
    refine V_iload 7 K.1 dX4_countFrom_92 rfl ?_
    refine V_iload 8 K.1 dX4_countFrom_94 rfl ?_
    refine V_iload 4 K.1 dX4_countFrom_96 rfl ?_
    exact V_sub [0, 1, 2, 3, 4, 6] rfl (k4 c83)
set_option maxRecDepth 20000 in
theorem R_X4_countFrom_101 {ω : WT} {κ : KT} {l : Launch} {d : Nat} {post : Option Value → St → Prop} {σ : St} {x1 x2 x3 x4 x6 s0 s1 : Int32}  (K : Cm ω κ l yX4_countFrom cX4_countFrom 9 d (some .int) post)
    (k1 : V ω κ 19 [(0, .ref (ω.2.2.1 28)), (1, .int x1), (2, .int x2), (3, .int x3), (4, .int x4), (5, .int (s0 + s1)), (6, .int (x6 + 1))] [] σ) :
    V ω κ 101 [(0, .ref (ω.2.2.1 28)), (1, .int x1), (2, .int x2), (3, .int x3), (4, .int x4), (6, .int x6)] [.int s1, .int s0] σ := by
  refine V_iadd K.1 dX4_countFrom_101 ?_
  refine V_istore (L' := [(0, .ref (ω.2.2.1 28)), (1, .int x1), (2, .int x2), (3, .int x3), (4, .int x4), (5, .int (s0 + s1)), (6, .int x6)]) K.1 dX4_countFrom_102 (by decide) rfl ?_
  refine V_goto (tgt := 145) K.1 dX4_countFrom_104 (by decide) ?_
  refine V_iinc (v := (x6 + 1)) (L' := [(0, .ref (ω.2.2.1 28)), (1, .int x1), (2, .int x2), (3, .int x3), (4, .int x4), (5, .int (s0 + s1)), (6, .int (x6 + 1))]) 6 K.1 dX4_countFrom_145 rfl rfl (by decide) rfl ?_
  refine V_goto (tgt := 19) K.1 dX4_countFrom_148 (by decide) ?_
  exact k1
set_option maxRecDepth 20000 in
theorem R_X4_countFrom_145 {ω : WT} {κ : KT} {l : Launch} {d : Nat} {post : Option Value → St → Prop} {σ : St} {x1 x2 x3 x4 x5 x6 : Int32}  (K : Cm ω κ l yX4_countFrom cX4_countFrom 9 d (some .int) post)
    (k1 : V ω κ 19 [(0, .ref (ω.2.2.1 28)), (1, .int x1), (2, .int x2), (3, .int x3), (4, .int x4), (5, .int x5), (6, .int (x6 + 1))] [] σ) :
    V ω κ 145 [(0, .ref (ω.2.2.1 28)), (1, .int x1), (2, .int x2), (3, .int x3), (4, .int x4), (5, .int x5), (6, .int x6)] [] σ := by
  refine V_iinc (v := (x6 + 1)) (L' := [(0, .ref (ω.2.2.1 28)), (1, .int x1), (2, .int x2), (3, .int x3), (4, .int x4), (5, .int x5), (6, .int (x6 + 1))]) 6 K.1 dX4_countFrom_145 rfl rfl (by decide) rfl ?_
  refine V_goto (tgt := 19) K.1 dX4_countFrom_148 (by decide) ?_
  exact k1
set_option maxRecDepth 20000 in
theorem C_X4_countFrom_74 {ω : WT} {κ : KT} {l : Launch} {d : Nat} {post : Option Value → St → Prop} {σ : St} {x1 x2 x3 x4 x5 x6 x7 s1 s2 s3 : Int32}  {post' : Option Value → St → Prop} (K : Cm ω κ l yX4_countFrom cX4_countFrom 9 d (some .int) post) (hdp : 1 ≤ d) (hM : Sp ω l yX2_step cX2_step 7 (some .int) (d - 1) [.ref (ω.2.2.1 14), .int s1, .int s2, .int s3] σ post')
    (kk : ∀ (v : Option Value) (σ' : St), post' v σ' → V ω κ 77 [(0, .ref (ω.2.2.1 28)), (1, .int x1), (2, .int x2), (3, .int x3), (4, .int x4), (5, .int x5), (6, .int x6), (7, .int x7)] (v.toList ++ []) σ') : V ω κ 74 [(0, .ref (ω.2.2.1 28)), (1, .int x1), (2, .int x2), (3, .int x3), (4, .int x4), (5, .int x5), (6, .int x6), (7, .int x7)] [.int s3, .int s2, .int s1, .ref (ω.2.2.1 14)] σ := by
  exact V_callV (d' := d - 1) (As := [.int s1, .int s2, .int s3]) (rest := []) K.1 dX4_countFrom_74 cw_X4_62 rfl rfl rfl (by omega) rfl (by simp [Value.category]) hM (fun v σ' h => kk v σ' h)
set_option maxRecDepth 20000 in
theorem C_X4_countFrom_98 {ω : WT} {κ : KT} {l : Launch} {d : Nat} {post : Option Value → St → Prop} {σ : St} {x1 x2 x3 x4 x6 s0 s2 s3 s4 s5 : Int32}  {post' : Option Value → St → Prop} (K : Cm ω κ l yX4_countFrom cX4_countFrom 9 d (some .int) post) (hdp : 1 ≤ d) (hM : Sp ω l yX4_countFrom cX4_countFrom 9 (some .int) (d - 1) [.ref (ω.2.2.1 28), .int s2, .int s3, .int s4, .int s5] σ post')
    (kk : ∀ (v : Option Value) (σ' : St), post' v σ' → V ω κ 101 [(0, .ref (ω.2.2.1 28)), (1, .int x1), (2, .int x2), (3, .int x3), (4, .int x4), (6, .int x6)] (v.toList ++ [.int s0]) σ') : V ω κ 98 [(0, .ref (ω.2.2.1 28)), (1, .int x1), (2, .int x2), (3, .int x3), (4, .int x4), (6, .int x6)] [.int s5, .int s4, .int s3, .int s2, .ref (ω.2.2.1 28), .int s0] σ := by
  exact V_callV (d' := d - 1) (As := [.int s2, .int s3, .int s4, .int s5]) (rest := [.int s0]) K.1 dX4_countFrom_98 cw_X4_39 rfl rfl rfl (by omega) rfl (by simp [Value.category]) hM (fun v σ' h => kk v σ' h)
set_option maxRecDepth 20000 in
theorem C_X4_countFrom_142 {ω : WT} {κ : KT} {l : Launch} {d : Nat} {post : Option Value → St → Prop} {σ : St} {x1 x2 x3 x4 x5 x6 s1 s2 : Int32}  {post' : Option Value → St → Prop} (K : Cm ω κ l yX4_countFrom cX4_countFrom 9 d (some .int) post) (hdp : 1 ≤ d) (hM : Sp ω l yX4_keepFirst cX4_keepFirst 5 none (d - 1) [.ref (ω.2.2.1 28), .int s1, .int s2] σ post')
    (kk : ∀ (v : Option Value) (σ' : St), post' v σ' → V ω κ 145 [(0, .ref (ω.2.2.1 28)), (1, .int x1), (2, .int x2), (3, .int x3), (4, .int x4), (5, .int x5), (6, .int x6)] (v.toList ++ []) σ') : V ω κ 142 [(0, .ref (ω.2.2.1 28)), (1, .int x1), (2, .int x2), (3, .int x3), (4, .int x4), (5, .int x5), (6, .int x6)] [.int s2, .int s1, .ref (ω.2.2.1 28)] σ := by
  exact V_callV (d' := d - 1) (As := [.int s1, .int s2]) (rest := []) K.1 dX4_countFrom_142 cw_X4_72 rfl rfl rfl (by omega) rfl (by simp [Value.category]) hM (fun v σ' h => kk v σ' h)
set_option maxRecDepth 20000 in
theorem R_X4_isOpenFrom_0 {ω : WT} {κ : KT} {l : Launch} {d : Nat} {post : Option Value → St → Prop} {σ : St} {x1 x2 x3 : Int32}  (K : Cm ω κ l yX4_isOpenFrom cX4_isOpenFrom 6 d (some .boolean) post)
    (k1 : (x1 < (σ.1 644)) → V ω κ 16 [(0, .ref (ω.2.2.1 28)), (1, .int x1), (2, .int x2), (3, .int x3), (4, .int (0 : Int32))] [] σ)
    (k2 : ¬ (x1 < (σ.1 644)) → post (some (.int (1 : Int32))) σ) :
    V ω κ 0 [(0, .ref (ω.2.2.1 28)), (1, .int x1), (2, .int x2), (3, .int x3)] [] σ := by
  refine V_iload_n 1 K.1 dX4_isOpenFrom_0 rfl rfl ?_
  refine V_aload_n 0 K.1 dX4_isOpenFrom_1 rfl rfl ?_
  refine V_get (v := .ref (ω.2.2.1 10)) K.1 dX4_isOpenFrom_2 rfl rfl fw_X4_18 rfl rfl ?_
  refine V_get (v := .int (σ.1 644)) K.1 dX4_isOpenFrom_5 rfl rfl fw_X4_47 rfl rfl ?_
  refine V_icmp_lt (tgt := 13) K.1 dX4_isOpenFrom_8 (by decide) (fun c8 => ?_) (fun c8 => ?_)
  · refine V_iconst (v := 0) K.1 dX4_isOpenFrom_13 (by decide) ?_
    refine V_istore (L' := [(0, .ref (ω.2.2.1 28)), (1, .int x1), (2, .int x2), (3, .int x3), (4, .int (0 : Int32))]) K.1 dX4_isOpenFrom_14 (by decide) rfl ?_
    exact (k1 c8)
  · refine V_iconst (v := 1) K.1 dX4_isOpenFrom_11 (by decide) ?_
    exact V_zret K dX4_isOpenFrom_12 (Or.inr rfl) (k2 c8)
set_option maxRecDepth 20000 in
theorem R_X4_isOpenFrom_16 {ω : WT} {κ : KT} {l : Launch} {d : Nat} {post : Option Value → St → Prop} {σ : St} {x1 x2 x3 x4 : Int32}  (K : Cm ω κ l yX4_isOpenFrom cX4_isOpenFrom 6 d (some .boolean) post)
    (k1 : ((σ.1 641) ≤ x4) → post (some (.int (1 : Int32))) σ)
    (k2 : ¬ ((σ.1 641) ≤ x4) → (((x2 >>> (x4 &&& 31)) &&& (1 : Int32)) = 0) → V ω κ 16 [(0, .ref (ω.2.2.1 28)), (1, .int x1), (2, .int x2), (3, .int x3), (4, .int (x4 + 1))] [] σ)
    (b3 : ¬ ((σ.1 641) ≤ x4) → ¬ (((x2 >>> (x4 &&& 31)) &&& (1 : Int32)) = 0) → vp_in x4 6)
    (k4 : ¬ ((σ.1 641) ≤ x4) → ¬ (((x2 >>> (x4 &&& 31)) &&& (1 : Int32)) = 0) → V ω κ 53 [(0, .ref (ω.2.2.1 28)), (1, .int x1), (2, .int x2), (3, .int x3), (4, .int x4)] [.int (0 : Int32), .int (σ.2.1 12 (x4).toNatClampNeg), .int x3, .ref (ω.2.2.1 14)] σ) :
    V ω κ 16 [(0, .ref (ω.2.2.1 28)), (1, .int x1), (2, .int x2), (3, .int x3), (4, .int x4)] [] σ := by
  refine V_iload 4 K.1 dX4_isOpenFrom_16 rfl ?_
  refine V_aload_n 0 K.1 dX4_isOpenFrom_18 rfl rfl ?_
  refine V_get (v := .ref (ω.2.2.1 10)) K.1 dX4_isOpenFrom_19 rfl rfl fw_X4_18 rfl rfl ?_
  refine V_get (v := .int (σ.1 641)) K.1 dX4_isOpenFrom_22 rfl rfl fw_X4_56 rfl rfl ?_
  refine V_icmp_ge (tgt := 96) K.1 dX4_isOpenFrom_25 (by decide) (fun c25 => ?_) (fun c25 => ?_)
  · refine V_iconst (v := 1) K.1 dX4_isOpenFrom_96 (by decide) ?_
    exact V_zret K dX4_isOpenFrom_97 (Or.inr rfl) (k1 c25)
  · refine V_iload_n 2 K.1 dX4_isOpenFrom_28 rfl rfl ?_
    refine V_iload 4 K.1 dX4_isOpenFrom_29 rfl ?_
    refine V_ishr K.1 dX4_isOpenFrom_31 ?_
    refine V_iconst (v := 1) K.1 dX4_isOpenFrom_32 (by decide) ?_
    refine V_iand K.1 dX4_isOpenFrom_33 ?_
    refine V_if_eq (tgt := 90) K.1 dX4_isOpenFrom_34 (by decide) (fun c34 => ?_) (fun c34 => ?_)
    · refine V_iinc (v := (x4 + 1)) (L' := [(0, .ref (ω.2.2.1 28)), (1, .int x1), (2, .int x2), (3, .int x3), (4, .int (x4 + 1))]) 4 K.1 dX4_isOpenFrom_90 rfl rfl (by decide) rfl ?_
      refine V_goto (tgt := 16) K.1 dX4_isOpenFrom_93 (by decide) ?_
      exact (k2 c25 c34)
    · refine V_aload_n 0 K.1 dX4_isOpenFrom_37 rfl rfl ?_
      refine V_get (v := .ref (ω.2.2.1 14)) K.1 dX4_isOpenFrom_38 rfl rfl fw_X4_22 rfl rfl ?_
      refine V_iload_n 3 K.1 dX4_isOpenFrom_41 rfl rfl ?_
      refine V_aload_n 0 K.1 dX4_isOpenFrom_42 rfl rfl ?_
      refine V_get (v := .ref (ω.2.2.1 10)) K.1 dX4_isOpenFrom_43 rfl rfl fw_X4_18 rfl rfl ?_
      refine V_get (v := .ref (ω.2.2.1 12)) K.1 dX4_isOpenFrom_46 rfl rfl fw_X4_59 rfl rfl ?_
      refine V_iload 4 K.1 dX4_isOpenFrom_49 rfl ?_
      refine V_iaload (v := (σ.2.1 12 (x4).toNatClampNeg)) K.1 dX4_isOpenFrom_51 rfl (b3 c25 c34) rfl ?_
      refine V_iconst (v := 0) K.1 dX4_isOpenFrom_52 (by decide) ?_
      exact (k4 c25 c34)
set_option maxRecDepth 20000 in
theorem R_X4_isOpenFrom_56 {ω : WT} {κ : KT} {l : Launch} {d : Nat} {post : Option Value → St → Prop} {σ : St} {x1 x2 x3 x4 s0 : Int32}  (K : Cm ω κ l yX4_isOpenFrom cX4_isOpenFrom 6 d (some .boolean) post)
    (k1 : ((σ.1 901) = 0) → post (some (.int (0 : Int32))) σ)
    (k2 : ¬ ((σ.1 901) = 0) → V ω κ 82 [(0, .ref (ω.2.2.1 28)), (1, .int x1), (2, .int x2), (3, .int x3), (4, .int x4)] [.int s0, .int (x2 &&& (((1 : Int32) <<< (x4 &&& 31)) ^^^ (-1 : Int32))), .int (x1 + (1 : Int32)), .ref (ω.2.2.1 28)] σ) :
    V ω κ 56 [(0, .ref (ω.2.2.1 28)), (1, .int x1), (2, .int x2), (3, .int x3), (4, .int x4)] [.int s0] σ := by
  refine V_istore (L' := [(0, .ref (ω.2.2.1 28)), (1, .int x1), (2, .int x2), (3, .int x3), (4, .int x4), (5, .int s0)]) K.1 dX4_isOpenFrom_56 (by decide) rfl ?_
  refine V_aload_n 0 K.1 dX4_isOpenFrom_58 rfl rfl ?_
  refine V_get (v := .ref (ω.2.2.1 14)) K.1 dX4_isOpenFrom_59 rfl rfl fw_X4_22 rfl rfl ?_
  refine V_get (v := .int (σ.1 901)) K.1 dX4_isOpenFrom_62 rfl rfl fw_X4_82 rfl rfl ?_
  refine V_if_eq (tgt := 88) K.1 dX4_isOpenFrom_65 (by decide) (fun c65 => ?_) (fun c65 => ?_)
  · refine V_iconst (v := 0) K.1 dX4_isOpenFrom_88 (by decide) ?_
    exact V_zret K dX4_isOpenFrom_89 (Or.inl rfl) (k1 c65)
  · refine V_aload_n 0 K.1 dX4_isOpenFrom_68 rfl rfl ?_
    refine V_iload_n 1 K.1 dX4_isOpenFrom_69 rfl rfl ?_
    refine V_iconst (v := 1) K.1 dX4_isOpenFrom_70 (by decide) ?_
    refine V_iadd K.1 dX4_isOpenFrom_71 ?_
    refine V_iload_n 2 K.1 dX4_isOpenFrom_72 rfl rfl ?_
    refine V_iconst (v := 1) K.1 dX4_isOpenFrom_73 (by decide) ?_
    refine V_iload 4 K.1 dX4_isOpenFrom_74 rfl ?_
    refine V_ishl K.1 dX4_isOpenFrom_76 ?_
    refine V_iconst (v := -1) K.1 dX4_isOpenFrom_77 (by decide) ?_
    refine V_ixor K.1 dX4_isOpenFrom_78 ?_
    refine V_iand K.1 dX4_isOpenFrom_79 ?_
    refine V_iload 5 K.1 dX4_isOpenFrom_80 rfl ?_
    exact V_sub [0, 1, 2, 3, 4] rfl (k2 c65)
set_option maxRecDepth 20000 in
theorem R_X4_isOpenFrom_85 {ω : WT} {κ : KT} {l : Launch} {d : Nat} {post : Option Value → St → Prop} {σ : St} {x1 x2 x3 x4 s0 : Int32}  (K : Cm ω κ l yX4_isOpenFrom cX4_isOpenFrom 6 d (some .boolean) post)
    (k1 : ¬ (s0 = 0) → V ω κ 16 [(0, .ref (ω.2.2.1 28)), (1, .int x1), (2, .int x2), (3, .int x3), (4, .int (x4 + 1))] [] σ)
    (k2 : (s0 = 0) → post (some (.int (0 : Int32))) σ) :
    V ω κ 85 [(0, .ref (ω.2.2.1 28)), (1, .int x1), (2, .int x2), (3, .int x3), (4, .int x4)] [.int s0] σ := by
  refine V_if_ne (tgt := 90) K.1 dX4_isOpenFrom_85 (by decide) (fun c85 => ?_) (fun c85 => ?_)
  · refine V_iinc (v := (x4 + 1)) (L' := [(0, .ref (ω.2.2.1 28)), (1, .int x1), (2, .int x2), (3, .int x3), (4, .int (x4 + 1))]) 4 K.1 dX4_isOpenFrom_90 rfl rfl (by decide) rfl ?_
    refine V_goto (tgt := 16) K.1 dX4_isOpenFrom_93 (by decide) ?_
    exact (k1 c85)
  · refine V_iconst (v := 0) K.1 dX4_isOpenFrom_88 (by decide) ?_
    exact V_zret K dX4_isOpenFrom_89 (Or.inl rfl) (k2 c85)
set_option maxRecDepth 20000 in
theorem C_X4_isOpenFrom_53 {ω : WT} {κ : KT} {l : Launch} {d : Nat} {post : Option Value → St → Prop} {σ : St} {x1 x2 x3 x4 s1 s2 s3 : Int32}  {post' : Option Value → St → Prop} (K : Cm ω κ l yX4_isOpenFrom cX4_isOpenFrom 6 d (some .boolean) post) (hdp : 1 ≤ d) (hM : Sp ω l yX2_step cX2_step 7 (some .int) (d - 1) [.ref (ω.2.2.1 14), .int s1, .int s2, .int s3] σ post')
    (kk : ∀ (v : Option Value) (σ' : St), post' v σ' → V ω κ 56 [(0, .ref (ω.2.2.1 28)), (1, .int x1), (2, .int x2), (3, .int x3), (4, .int x4)] (v.toList ++ []) σ') : V ω κ 53 [(0, .ref (ω.2.2.1 28)), (1, .int x1), (2, .int x2), (3, .int x3), (4, .int x4)] [.int s3, .int s2, .int s1, .ref (ω.2.2.1 14)] σ := by
  exact V_callV (d' := d - 1) (As := [.int s1, .int s2, .int s3]) (rest := []) K.1 dX4_isOpenFrom_53 cw_X4_62 rfl rfl rfl (by omega) rfl (by simp [Value.category]) hM (fun v σ' h => kk v σ' h)
set_option maxRecDepth 20000 in
theorem C_X4_isOpenFrom_82 {ω : WT} {κ : KT} {l : Launch} {d : Nat} {post : Option Value → St → Prop} {σ : St} {x1 x2 x3 x4 s1 s2 s3 : Int32}  {post' : Option Value → St → Prop} (K : Cm ω κ l yX4_isOpenFrom cX4_isOpenFrom 6 d (some .boolean) post) (hdp : 1 ≤ d) (hM : Sp ω l yX4_isOpenFrom cX4_isOpenFrom 6 (some .boolean) (d - 1) [.ref (ω.2.2.1 28), .int s1, .int s2, .int s3] σ post')
    (kk : ∀ (v : Option Value) (σ' : St), post' v σ' → V ω κ 85 [(0, .ref (ω.2.2.1 28)), (1, .int x1), (2, .int x2), (3, .int x3), (4, .int x4)] (v.toList ++ []) σ') : V ω κ 82 [(0, .ref (ω.2.2.1 28)), (1, .int x1), (2, .int x2), (3, .int x3), (4, .int x4)] [.int s3, .int s2, .int s1, .ref (ω.2.2.1 28)] σ := by
  exact V_callV (d' := d - 1) (As := [.int s1, .int s2, .int s3]) (rest := []) K.1 dX4_isOpenFrom_82 cw_X4_43 rfl rfl rfl (by omega) rfl (by simp [Value.category]) hM (fun v σ' h => kk v σ' h)
set_option maxRecDepth 20000 in
theorem R_X4_countWonByYes_0 {ω : WT} {κ : KT} {l : Launch} {d : Nat} {post : Option Value → St → Prop} {σ : St} {x1 : Int32}  (K : Cm ω κ l yX4_countWonByYes cX4_countWonByYes 2 d (some .int) post)
    (k1 : V ω κ 8 [(0, .ref (ω.2.2.1 28)), (1, .int x1)] [.ref (ω.2.2.1 28), .int (0 : Int32), .ref (ω.2.2.1 28)] (pS σ 1795 (0 : Int32))) :
    V ω κ 0 [(0, .ref (ω.2.2.1 28)), (1, .int x1)] [] σ := by
  refine V_aload_n 0 K.1 dX4_countWonByYes_0 rfl rfl ?_
  refine V_iconst (v := 0) K.1 dX4_countWonByYes_1 (by decide) ?_
  refine V_putI (key := 1795) K.1 dX4_countWonByYes_2 rfl rfl fw_X4_26 pw_X4_3 rfl (narZ (Or.inl rfl)) (fitZ (Or.inl rfl)) rfl ?_
  refine V_aload_n 0 K.1 dX4_countWonByYes_5 rfl rfl ?_
  refine V_iconst (v := 0) K.1 dX4_countWonByYes_6 (by decide) ?_
  refine V_aload_n 0 K.1 dX4_countWonByYes_7 rfl rfl ?_
  exact k1
set_option maxRecDepth 20000 in
theorem R_X4_countWonByYes_11 {ω : WT} {κ : KT} {l : Launch} {d : Nat} {post : Option Value → St → Prop} {σ : St} {x1 s1 s2 : Int32}  (K : Cm ω κ l yX4_countWonByYes cX4_countWonByYes 2 d (some .int) post) (hdp : 2 ≤ d)
    (k1 : V ω κ 19 [] [.int x1, .int (((if (((σ.1 640) - (1 : Int32)) < (0 : Int32)) then (0 : Int32) else ((σ.1 640) - (1 : Int32))) * (256 : Int32)) + (((1 : Int32) <<< ((σ.1 640) &&& 31)) - (1 : Int32))), .int s2, .int s1, .ref (ω.2.2.1 28)] σ) :
    V ω κ 11 [(0, .ref (ω.2.2.1 28)), (1, .int x1)] [.int s2, .int s1, .ref (ω.2.2.1 28)] σ := by
  refine V_aload_n 0 K.1 dX4_countWonByYes_11 rfl rfl ?_
  refine V_get (v := .ref (ω.2.2.1 14)) K.1 dX4_countWonByYes_12 rfl rfl fw_X4_22 rfl rfl ?_
  refine V_callV (d' := d - 1) (As := []) K.1 dX4_countWonByYes_15 cw_X4_34 rfl rfl rfl (by omega) rfl (by simp [Value.category]) (m_X2_opening K.1.wf (by omega)) (go_I ?_)
  refine V_iload_n 1 K.1 dX4_countWonByYes_18 rfl rfl ?_
  exact V_sub [] rfl k1
set_option maxRecDepth 20000 in
theorem R_X4_countWonByYes_22 {ω : WT} {κ : KT} {l : Launch} {d : Nat} {post : Option Value → St → Prop} {σ : St} {s0 : Int32}  (K : Cm ω κ l yX4_countWonByYes cX4_countWonByYes 2 d (some .int) post)
    (k1 : post (some (.int s0)) σ) :
    V ω κ 22 [] [.int s0] σ := by
  exact V_iret K dX4_countWonByYes_22 k1
set_option maxRecDepth 20000 in
theorem C_X4_countWonByYes_8 {ω : WT} {κ : KT} {l : Launch} {d : Nat} {post : Option Value → St → Prop} {σ : St} {x1 s1 : Int32}  {post' : Option Value → St → Prop} (K : Cm ω κ l yX4_countWonByYes cX4_countWonByYes 2 d (some .int) post) (hdp : 1 ≤ d) (hM : Sp ω l yX4_mattersToPut cX4_mattersToPut 3 (some .int) (d - 1) [.ref (ω.2.2.1 28)] σ post')
    (kk : ∀ (v : Option Value) (σ' : St), post' v σ' → V ω κ 11 [(0, .ref (ω.2.2.1 28)), (1, .int x1)] (v.toList ++ [.int s1, .ref (ω.2.2.1 28)]) σ') : V ω κ 8 [(0, .ref (ω.2.2.1 28)), (1, .int x1)] [.ref (ω.2.2.1 28), .int s1, .ref (ω.2.2.1 28)] σ := by
  exact V_callV (d' := d - 1) (As := []) (rest := [.int s1, .ref (ω.2.2.1 28)]) K.1 dX4_countWonByYes_8 cw_X4_30 rfl rfl rfl (by omega) rfl (by simp [Value.category]) hM (fun v σ' h => kk v σ' h)
set_option maxRecDepth 20000 in
theorem C_X4_countWonByYes_19 {ω : WT} {κ : KT} {l : Launch} {d : Nat} {post : Option Value → St → Prop} {σ : St} {s1 s2 s3 s4 : Int32}  {post' : Option Value → St → Prop} (K : Cm ω κ l yX4_countWonByYes cX4_countWonByYes 2 d (some .int) post) (hdp : 1 ≤ d) (hM : Sp ω l yX4_countFrom cX4_countFrom 9 (some .int) (d - 1) [.ref (ω.2.2.1 28), .int s1, .int s2, .int s3, .int s4] σ post')
    (kk : ∀ (v : Option Value) (σ' : St), post' v σ' → V ω κ 22 [] (v.toList ++ []) σ') : V ω κ 19 [] [.int s4, .int s3, .int s2, .int s1, .ref (ω.2.2.1 28)] σ := by
  exact V_callV (d' := d - 1) (As := [.int s1, .int s2, .int s3, .int s4]) (rest := []) K.1 dX4_countWonByYes_19 cw_X4_39 rfl rfl rfl (by omega) rfl (by simp [Value.category]) hM (fun v σ' h => kk v σ' h)
set_option maxRecDepth 20000 in
theorem R_X4_isNeverShut_0 {ω : WT} {κ : KT} {l : Launch} {d : Nat} {post : Option Value → St → Prop} {σ : St}  (K : Cm ω κ l yX4_isNeverShut cX4_isNeverShut 1 d (some .boolean) post)
    (k1 : V ω κ 3 [(0, .ref (ω.2.2.1 28))] [.ref (ω.2.2.1 28), .int (0 : Int32), .ref (ω.2.2.1 28)] σ) :
    V ω κ 0 [(0, .ref (ω.2.2.1 28))] [] σ := by
  refine V_aload_n 0 K.1 dX4_isNeverShut_0 rfl rfl ?_
  refine V_iconst (v := 0) K.1 dX4_isNeverShut_1 (by decide) ?_
  refine V_aload_n 0 K.1 dX4_isNeverShut_2 rfl rfl ?_
  exact k1
set_option maxRecDepth 20000 in
theorem R_X4_isNeverShut_6 {ω : WT} {κ : KT} {l : Launch} {d : Nat} {post : Option Value → St → Prop} {σ : St} {s1 s2 : Int32}  (K : Cm ω κ l yX4_isNeverShut cX4_isNeverShut 1 d (some .boolean) post) (hdp : 2 ≤ d)
    (k1 : V ω κ 13 [] [.int (((if (((σ.1 640) - (1 : Int32)) < (0 : Int32)) then (0 : Int32) else ((σ.1 640) - (1 : Int32))) * (256 : Int32)) + (((1 : Int32) <<< ((σ.1 640) &&& 31)) - (1 : Int32))), .int s2, .int s1, .ref (ω.2.2.1 28)] σ) :
    V ω κ 6 [(0, .ref (ω.2.2.1 28))] [.int s2, .int s1, .ref (ω.2.2.1 28)] σ := by
  refine V_aload_n 0 K.1 dX4_isNeverShut_6 rfl rfl ?_
  refine V_get (v := .ref (ω.2.2.1 14)) K.1 dX4_isNeverShut_7 rfl rfl fw_X4_22 rfl rfl ?_
  refine V_callV (d' := d - 1) (As := []) K.1 dX4_isNeverShut_10 cw_X4_34 rfl rfl rfl (by omega) rfl (by simp [Value.category]) (m_X2_opening K.1.wf (by omega)) (go_I ?_)
  exact V_sub [] rfl k1
set_option maxRecDepth 20000 in
theorem R_X4_isNeverShut_16 {ω : WT} {κ : KT} {l : Launch} {d : Nat} {post : Option Value → St → Prop} {σ : St} {s0 : Int32}  (K : Cm ω κ l yX4_isNeverShut cX4_isNeverShut 1 d (some .boolean) post)
    (z1 : s0 = 0 ∨ s0 = 1)
    (k2 : post (some (.int s0)) σ) :
    V ω κ 16 [] [.int s0] σ := by
  exact V_zret K dX4_isNeverShut_16 z1 k2
set_option maxRecDepth 20000 in
theorem C_X4_isNeverShut_3 {ω : WT} {κ : KT} {l : Launch} {d : Nat} {post : Option Value → St → Prop} {σ : St} {s1 : Int32}  {post' : Option Value → St → Prop} (K : Cm ω κ l yX4_isNeverShut cX4_isNeverShut 1 d (some .boolean) post) (hdp : 1 ≤ d) (hM : Sp ω l yX4_mattersToPut cX4_mattersToPut 3 (some .int) (d - 1) [.ref (ω.2.2.1 28)] σ post')
    (kk : ∀ (v : Option Value) (σ' : St), post' v σ' → V ω κ 6 [(0, .ref (ω.2.2.1 28))] (v.toList ++ [.int s1, .ref (ω.2.2.1 28)]) σ') : V ω κ 3 [(0, .ref (ω.2.2.1 28))] [.ref (ω.2.2.1 28), .int s1, .ref (ω.2.2.1 28)] σ := by
  exact V_callV (d' := d - 1) (As := []) (rest := [.int s1, .ref (ω.2.2.1 28)]) K.1 dX4_isNeverShut_3 cw_X4_30 rfl rfl rfl (by omega) rfl (by simp [Value.category]) hM (fun v σ' h => kk v σ' h)
set_option maxRecDepth 20000 in
theorem C_X4_isNeverShut_13 {ω : WT} {κ : KT} {l : Launch} {d : Nat} {post : Option Value → St → Prop} {σ : St} {s1 s2 s3 : Int32}  {post' : Option Value → St → Prop} (K : Cm ω κ l yX4_isNeverShut cX4_isNeverShut 1 d (some .boolean) post) (hdp : 1 ≤ d) (hM : Sp ω l yX4_isOpenFrom cX4_isOpenFrom 6 (some .boolean) (d - 1) [.ref (ω.2.2.1 28), .int s1, .int s2, .int s3] σ post')
    (kk : ∀ (v : Option Value) (σ' : St), post' v σ' → V ω κ 16 [] (v.toList ++ []) σ') : V ω κ 13 [] [.int s3, .int s2, .int s1, .ref (ω.2.2.1 28)] σ := by
  exact V_callV (d' := d - 1) (As := [.int s1, .int s2, .int s3]) (rest := []) K.1 dX4_isNeverShut_13 cw_X4_43 rfl rfl rfl (by omega) rfl (by simp [Value.category]) hM (fun v σ' h => kk v σ' h)
set_option maxRecDepth 20000 in
theorem R_X8_orders_0 {ω : WT} {κ : KT} {l : Launch} {d : Nat} {post : Option Value → St → Prop} {σ : St} {x1 x2 : Int32}  (K : Cm ω κ l yX8_orders cX8_orders 4 d (some .int) post) (hdp : 1 ≤ d)
    (k1 : ((if (x1 < 0) then (0 : Int32) else (if ((σ.1 641) ≤ x1) then (0 : Int32) else (1 : Int32))) = 0) → post (some (.int (-1 : Int32))) σ)
    (k2 : ¬ ((if (x1 < 0) then (0 : Int32) else (if ((σ.1 641) ≤ x1) then (0 : Int32) else (1 : Int32))) = 0) → V ω κ 16 [(0, .ref (ω.2.2.1 0)), (1, .int x1), (2, .int x2)] [.int x1, .ref (ω.2.2.1 10)] σ) :
    V ω κ 0 [(0, .ref (ω.2.2.1 0)), (1, .int x1), (2, .int x2)] [] σ := by
  refine V_aload_n 0 K.1 dX8_orders_0 rfl rfl ?_
  refine V_get (v := .ref (ω.2.2.1 10)) K.1 dX8_orders_1 rfl rfl fw_X8_21 rfl rfl ?_
  refine V_iload_n 1 K.1 dX8_orders_4 rfl rfl ?_
  refine V_callV (d' := d - 1) (As := [.int x1]) K.1 dX8_orders_5 cw_X8_97 rfl rfl rfl (by omega) rfl (by simp [Value.category]) (m_X7_hasMatter K.1.wf (by omega)) (go_I ?_)
  refine V_if_eq (tgt := 22) K.1 dX8_orders_8 (by decide) (fun c8 => ?_) (fun c8 => ?_)
  · refine V_iconst (v := -1) K.1 dX8_orders_22 (by decide) ?_
    exact V_iret K dX8_orders_23 (k1 c8)
  · refine V_aload_n 0 K.1 dX8_orders_11 rfl rfl ?_
    refine V_get (v := .ref (ω.2.2.1 10)) K.1 dX8_orders_12 rfl rfl fw_X8_21 rfl rfl ?_
    refine V_iload_n 1 K.1 dX8_orders_15 rfl rfl ?_
    exact (k2 c8)
set_option maxRecDepth 20000 in
theorem R_X8_orders_19 {ω : WT} {κ : KT} {l : Launch} {d : Nat} {post : Option Value → St → Prop} {σ : St} {x1 x2 s0 : Int32}  (K : Cm ω κ l yX8_orders cX8_orders 4 d (some .int) post) (hdp : 2 ≤ d)
    (k1 : (0 ≤ s0) → (x2 < (-1 : Int32)) → post (some (.int (-1 : Int32))) σ)
    (k2 : (0 ≤ s0) → ¬ (x2 < (-1 : Int32)) → (x2 < (σ.1 644)) → V ω κ 54 [(0, .ref (ω.2.2.1 0)), (2, .int x2)] [.int x1, .ref (ω.2.2.1 28)] (pS (pS σ 897 (σ.1 642)) 898 (σ.1 643)))
    (k3 : (0 ≤ s0) → ¬ (x2 < (-1 : Int32)) → ¬ (x2 < (σ.1 644)) → post (some (.int (-1 : Int32))) σ)
    (k4 : ¬ (0 ≤ s0) → post (some (.int (-1 : Int32))) σ) :
    V ω κ 19 [(0, .ref (ω.2.2.1 0)), (1, .int x1), (2, .int x2)] [.int s0] σ := by
  refine V_if_ge (tgt := 24) K.1 dX8_orders_19 (by decide) (fun c19 => ?_) (fun c19 => ?_)
  · refine V_iload_n 2 K.1 dX8_orders_24 rfl rfl ?_
    refine V_iconst (v := -1) K.1 dX8_orders_25 (by decide) ?_
    refine V_icmp_lt (tgt := 40) K.1 dX8_orders_26 (by decide) (fun c26 => ?_) (fun c26 => ?_)
    · refine V_iconst (v := -1) K.1 dX8_orders_40 (by decide) ?_
      exact V_iret K dX8_orders_41 (k1 c19 c26)
    · refine V_iload_n 2 K.1 dX8_orders_29 rfl rfl ?_
      refine V_aload_n 0 K.1 dX8_orders_30 rfl rfl ?_
      refine V_get (v := .ref (ω.2.2.1 10)) K.1 dX8_orders_31 rfl rfl fw_X8_21 rfl rfl ?_
      refine V_get (v := .int (σ.1 644)) K.1 dX8_orders_34 rfl rfl fw_X8_120 rfl rfl ?_
      refine V_icmp_lt (tgt := 42) K.1 dX8_orders_37 (by decide) (fun c37 => ?_) (fun c37 => ?_)
      · refine V_aload_n 0 K.1 dX8_orders_42 rfl rfl ?_
        refine V_get (v := .ref (ω.2.2.1 14)) K.1 dX8_orders_43 rfl rfl fw_X8_30 rfl rfl ?_
        refine V_callV (d' := d - 1) (As := []) K.1 dX8_orders_46 cw_X8_149 rfl rfl rfl (by omega) rfl (by simp [Value.category]) (m_X2_useOwnRules K.1.wf (by omega)) (go_V ?_)
        refine V_aload_n 0 K.1 dX8_orders_49 rfl rfl ?_
        refine V_get (v := .ref (ω.2.2.1 28)) K.1 dX8_orders_50 rfl rfl fw_X8_62 rfl rfl ?_
        refine V_iload_n 1 K.1 dX8_orders_53 rfl rfl ?_
        exact V_sub [0, 2] rfl (k2 c19 c26 c37)
      · refine V_iconst (v := -1) K.1 dX8_orders_40 (by decide) ?_
        exact V_iret K dX8_orders_41 (k3 c19 c26 c37)
  · refine V_iconst (v := -1) K.1 dX8_orders_22 (by decide) ?_
    exact V_iret K dX8_orders_23 (k4 c19)
set_option maxRecDepth 20000 in
theorem R_X8_orders_57 {ω : WT} {κ : KT} {l : Launch} {d : Nat} {post : Option Value → St → Prop} {σ : St} {x2 s0 : Int32}  (K : Cm ω κ l yX8_orders cX8_orders 4 d (some .int) post)
    (b2 : ¬ (x2 = (-1 : Int32)) → ¬ (s0 = 0) → vp_in x2 6)
    (k3 : ¬ (x2 = (-1 : Int32)) → post (some (.int (if (s0 = 0) then (-9 : Int32) else (σ.2.1 30 (x2).toNatClampNeg)))) σ)
    (k4 : (x2 = (-1 : Int32)) → post (some (.int s0)) σ) :
    V ω κ 57 [(0, .ref (ω.2.2.1 0)), (2, .int x2)] [.int s0] σ := by
  refine V_istore_n (L' := [(0, .ref (ω.2.2.1 0)), (2, .int x2), (3, .int s0)]) K.1 dX8_orders_57 rfl (by decide) rfl ?_
  refine V_iload_n 1 K.1 dX8_orders_58 rfl rfl ?_
  refine V_iconst (v := -1) K.1 dX8_orders_59 (by decide) ?_
  refine V_icmp_ne (tgt := 65) K.1 dX8_orders_60 (by decide) (fun c60 => ?_) (fun c60 => ?_)
  · refine V_iload_n 2 K.1 dX8_orders_65 rfl rfl ?_
    refine V_join (J := 83) (S := []) (v := .int (if (s0 = 0) then (-9 : Int32) else (σ.2.1 30 (x2).toNatClampNeg))) (fun hJ1 => ?_) ?_
    · refine V_if_ne (tgt := 74) K.1 dX8_orders_66 (by decide) (fun c66 => ?_) (fun c66 => ?_)
      · refine V_aload_n 0 K.1 dX8_orders_74 rfl rfl ?_
        refine V_get (v := .ref (ω.2.2.1 28)) K.1 dX8_orders_75 rfl rfl fw_X8_62 rfl rfl ?_
        refine V_get (v := .ref (ω.2.2.1 30)) K.1 dX8_orders_78 rfl rfl fw_X8_179 rfl rfl ?_
        refine V_iload_n 1 K.1 dX8_orders_81 rfl rfl ?_
        refine V_iaload (v := (σ.2.1 30 (x2).toNatClampNeg)) K.1 dX8_orders_82 rfl (b2 c60 c66) rfl ?_
        exact V_top (if_neg c66) hJ1
      · refine V_bipush (v := -9) K.1 dX8_orders_69 (by decide) ?_
        refine V_goto (tgt := 83) K.1 dX8_orders_71 (by decide) ?_
        exact V_top (if_pos c66) hJ1
    exact V_iret K dX8_orders_83 (k3 c60)
  · refine V_iload_n 2 K.1 dX8_orders_63 rfl rfl ?_
    exact V_iret K dX8_orders_64 (k4 c60)
set_option maxRecDepth 20000 in
theorem C_X8_orders_16 {ω : WT} {κ : KT} {l : Launch} {d : Nat} {post : Option Value → St → Prop} {σ : St} {x1 x2 s1 : Int32}  {post' : Option Value → St → Prop} (K : Cm ω κ l yX8_orders cX8_orders 4 d (some .int) post) (hdp : 1 ≤ d) (hM : Sp ω l yX7_placeOf cX7_placeOf 3 (some .int) (d - 1) [.ref (ω.2.2.1 10), .int s1] σ post')
    (kk : ∀ (v : Option Value) (σ' : St), post' v σ' → V ω κ 19 [(0, .ref (ω.2.2.1 0)), (1, .int x1), (2, .int x2)] (v.toList ++ []) σ') : V ω κ 16 [(0, .ref (ω.2.2.1 0)), (1, .int x1), (2, .int x2)] [.int s1, .ref (ω.2.2.1 10)] σ := by
  exact V_callV (d' := d - 1) (As := [.int s1]) (rest := []) K.1 dX8_orders_16 cw_X8_142 rfl rfl rfl (by omega) rfl (by simp [Value.category]) hM (fun v σ' h => kk v σ' h)
set_option maxRecDepth 20000 in
theorem C_X8_orders_54 {ω : WT} {κ : KT} {l : Launch} {d : Nat} {post : Option Value → St → Prop} {σ : St} {x2 s1 : Int32}  {post' : Option Value → St → Prop} (K : Cm ω κ l yX8_orders cX8_orders 4 d (some .int) post) (hdp : 1 ≤ d) (hM : Sp ω l yX4_countWonByYes cX4_countWonByYes 2 (some .int) (d - 1) [.ref (ω.2.2.1 28), .int s1] σ post')
    (kk : ∀ (v : Option Value) (σ' : St), post' v σ' → V ω κ 57 [(0, .ref (ω.2.2.1 0)), (2, .int x2)] (v.toList ++ []) σ') : V ω κ 54 [(0, .ref (ω.2.2.1 0)), (2, .int x2)] [.int s1, .ref (ω.2.2.1 28)] σ := by
  exact V_callV (d' := d - 1) (As := [.int s1]) (rest := []) K.1 dX8_orders_54 cw_X8_176 rfl rfl rfl (by omega) rfl (by simp [Value.category]) hM (fun v σ' h => kk v σ' h)
set_option maxRecDepth 20000 in
theorem R_X8_safe_0 {ω : WT} {κ : KT} {l : Launch} {d : Nat} {post : Option Value → St → Prop} {σ : St}  (K : Cm ω κ l yX8_safe cX8_safe 4 d (some .int) post) (hdp : 1 ≤ d)
    (k1 : ¬ ((if ((σ.1 640) ≤ 0) then (0 : Int32) else (1 : Int32)) = 0) → V ω κ 17 [(0, .ref (ω.2.2.1 0)), (1, .int (0 : Int32)), (2, .int (0 : Int32))] [] σ)
    (k2 : ((if ((σ.1 640) ≤ 0) then (0 : Int32) else (1 : Int32)) = 0) → post (some (.int (-3 : Int32))) σ) :
    V ω κ 0 [(0, .ref (ω.2.2.1 0))] [] σ := by
  refine V_aload_n 0 K.1 dX8_safe_0 rfl rfl ?_
  refine V_get (v := .ref (ω.2.2.1 10)) K.1 dX8_safe_1 rfl rfl fw_X8_21 rfl rfl ?_
  refine V_callV (d' := d - 1) (As := []) K.1 dX8_safe_4 cw_X8_107 rfl rfl rfl (by omega) rfl (by simp [Value.category]) (m_X7_stands K.1.wf (by omega)) (go_I ?_)
  refine V_if_ne (tgt := 13) K.1 dX8_safe_7 (by decide) (fun c7 => ?_) (fun c7 => ?_)
  · refine V_iconst (v := 0) K.1 dX8_safe_13 (by decide) ?_
    refine V_istore_n (L' := [(0, .ref (ω.2.2.1 0)), (1, .int (0 : Int32))]) K.1 dX8_safe_14 rfl (by decide) rfl ?_
    refine V_iconst (v := 0) K.1 dX8_safe_15 (by decide) ?_
    refine V_istore_n (L' := [(0, .ref (ω.2.2.1 0)), (1, .int (0 : Int32)), (2, .int (0 : Int32))]) K.1 dX8_safe_16 rfl (by decide) rfl ?_
    exact (k1 c7)
  · refine V_bipush (v := -3) K.1 dX8_safe_10 (by decide) ?_
    exact V_iret K dX8_safe_12 (k2 c7)
set_option maxRecDepth 20000 in
theorem R_X8_safe_17 {ω : WT} {κ : KT} {l : Launch} {d : Nat} {post : Option Value → St → Prop} {σ : St} {x1 x2 : Int32}  (K : Cm ω κ l yX8_safe cX8_safe 4 d (some .int) post)
    (k1 : ((4 : Int32) ≤ x2) → post (some (.int x1)) σ)
    (k2 : ¬ ((4 : Int32) ≤ x2) → V ω κ 24 [(0, .ref (ω.2.2.1 0)), (1, .int x1), (2, .int x2), (3, .int (0 : Int32))] [] σ) :
    V ω κ 17 [(0, .ref (ω.2.2.1 0)), (1, .int x1), (2, .int x2)] [] σ := by
  refine V_iload_n 2 K.1 dX8_safe_17 rfl rfl ?_
  refine V_iconst (v := 4) K.1 dX8_safe_18 (by decide) ?_
  refine V_icmp_ge (tgt := 68) K.1 dX8_safe_19 (by decide) (fun c19 => ?_) (fun c19 => ?_)
  · refine V_iload_n 1 K.1 dX8_safe_68 rfl rfl ?_
    exact V_iret K dX8_safe_69 (k1 c19)
  · refine V_iconst (v := 0) K.1 dX8_safe_22 (by decide) ?_
    refine V_istore_n (L' := [(0, .ref (ω.2.2.1 0)), (1, .int x1), (2, .int x2), (3, .int (0 : Int32))]) K.1 dX8_safe_23 rfl (by decide) rfl ?_
    exact (k2 c19)
set_option maxRecDepth 20000 in
theorem R_X8_safe_24 {ω : WT} {κ : KT} {l : Launch} {d : Nat} {post : Option Value → St → Prop} {σ : St} {x1 x2 x3 : Int32}  (K : Cm ω κ l yX8_safe cX8_safe 4 d (some .int) post) (hdp : 1 ≤ d)
    (k1 : ((3 : Int32) ≤ x3) → V ω κ 17 [(0, .ref (ω.2.2.1 0)), (1, .int x1), (2, .int (x2 + 1))] [] σ)
    (k2 : ¬ ((3 : Int32) ≤ x3) → V ω κ 42 [(0, .ref (ω.2.2.1 0)), (1, .int x1), (2, .int x2), (3, .int x3)] [.ref (ω.2.2.1 28)] (pS (pS σ 897 x2) 898 x3)) :
    V ω κ 24 [(0, .ref (ω.2.2.1 0)), (1, .int x1), (2, .int x2), (3, .int x3)] [] σ := by
  refine V_iload_n 3 K.1 dX8_safe_24 rfl rfl ?_
  refine V_iconst (v := 3) K.1 dX8_safe_25 (by decide) ?_
  refine V_icmp_ge (tgt := 62) K.1 dX8_safe_26 (by decide) (fun c26 => ?_) (fun c26 => ?_)
  · refine V_iinc (v := (x2 + 1)) (L' := [(0, .ref (ω.2.2.1 0)), (1, .int x1), (2, .int (x2 + 1)), (3, .int x3)]) 2 K.1 dX8_safe_62 rfl rfl (by decide) rfl ?_
    refine V_goto (tgt := 17) K.1 dX8_safe_65 (by decide) ?_
    exact V_sub [0, 1, 2] rfl (k1 c26)
  · refine V_aload_n 0 K.1 dX8_safe_29 rfl rfl ?_
    refine V_get (v := .ref (ω.2.2.1 14)) K.1 dX8_safe_30 rfl rfl fw_X8_30 rfl rfl ?_
    refine V_iload_n 2 K.1 dX8_safe_33 rfl rfl ?_
    refine V_iload_n 3 K.1 dX8_safe_34 rfl rfl ?_
    refine V_callV (d' := d - 1) (As := [.int x2, .int x3]) K.1 dX8_safe_35 cw_X8_206 rfl rfl rfl (by omega) rfl (by simp [Value.category]) (m_X2_useRules K.1.wf (by omega)) (go_V ?_)
    refine V_aload_n 0 K.1 dX8_safe_38 rfl rfl ?_
    refine V_get (v := .ref (ω.2.2.1 28)) K.1 dX8_safe_39 rfl rfl fw_X8_62 rfl rfl ?_
    exact (k2 c26)
set_option maxRecDepth 20000 in
theorem R_X8_safe_45 {ω : WT} {κ : KT} {l : Launch} {d : Nat} {post : Option Value → St → Prop} {σ : St} {x1 x2 x3 s0 : Int32}  (K : Cm ω κ l yX8_safe cX8_safe 4 d (some .int) post) (hdp : 1 ≤ d)
    (k1 : (s0 = 0) → V ω κ 24 [(0, .ref (ω.2.2.1 0)), (1, .int x1), (2, .int x2), (3, .int (x3 + 1))] [] σ)
    (k2 : ¬ (s0 = 0) → V ω κ 24 [(0, .ref (ω.2.2.1 0)), (1, .int (x1 ||| ((1 : Int32) <<< ((((3 : Int32) * x2) + x3) &&& 31)))), (2, .int x2), (3, .int (x3 + 1))] [] σ) :
    V ω κ 45 [(0, .ref (ω.2.2.1 0)), (1, .int x1), (2, .int x2), (3, .int x3)] [.int s0] σ := by
  refine V_if_eq (tgt := 56) K.1 dX8_safe_45 (by decide) (fun c45 => ?_) (fun c45 => ?_)
  · refine V_iinc (v := (x3 + 1)) (L' := [(0, .ref (ω.2.2.1 0)), (1, .int x1), (2, .int x2), (3, .int (x3 + 1))]) 3 K.1 dX8_safe_56 rfl rfl (by decide) rfl ?_
    refine V_goto (tgt := 24) K.1 dX8_safe_59 (by decide) ?_
    exact (k1 c45)
  · refine V_iload_n 1 K.1 dX8_safe_48 rfl rfl ?_
    refine V_iload_n 2 K.1 dX8_safe_49 rfl rfl ?_
    refine V_iload_n 3 K.1 dX8_safe_50 rfl rfl ?_
    refine V_callS (d' := d - 1) (As := [.int x2, .int x3]) K.1 dX8_safe_51 cw_X8_214 rfl (by omega) rfl (by simp [Value.category]) (m_X8_ruleBit K.1.wf (by omega)) (go_I ?_)
    refine V_ior K.1 dX8_safe_54 ?_
    refine V_istore_n (L' := [(0, .ref (ω.2.2.1 0)), (1, .int (x1 ||| ((1 : Int32) <<< ((((3 : Int32) * x2) + x3) &&& 31)))), (2, .int x2), (3, .int x3)]) K.1 dX8_safe_55 rfl (by decide) rfl ?_
    refine V_iinc (v := (x3 + 1)) (L' := [(0, .ref (ω.2.2.1 0)), (1, .int (x1 ||| ((1 : Int32) <<< ((((3 : Int32) * x2) + x3) &&& 31)))), (2, .int x2), (3, .int (x3 + 1))]) 3 K.1 dX8_safe_56 rfl rfl (by decide) rfl ?_
    refine V_goto (tgt := 24) K.1 dX8_safe_59 (by decide) ?_
    exact (k2 c45)
set_option maxRecDepth 20000 in
theorem C_X8_safe_42 {ω : WT} {κ : KT} {l : Launch} {d : Nat} {post : Option Value → St → Prop} {σ : St} {x1 x2 x3 : Int32}  {post' : Option Value → St → Prop} (K : Cm ω κ l yX8_safe cX8_safe 4 d (some .int) post) (hdp : 1 ≤ d) (hM : Sp ω l yX4_isNeverShut cX4_isNeverShut 1 (some .boolean) (d - 1) [.ref (ω.2.2.1 28)] σ post')
    (kk : ∀ (v : Option Value) (σ' : St), post' v σ' → V ω κ 45 [(0, .ref (ω.2.2.1 0)), (1, .int x1), (2, .int x2), (3, .int x3)] (v.toList ++ []) σ') : V ω κ 42 [(0, .ref (ω.2.2.1 0)), (1, .int x1), (2, .int x2), (3, .int x3)] [.ref (ω.2.2.1 28)] σ := by
  exact V_callV (d' := d - 1) (As := []) (rest := []) K.1 dX8_safe_42 cw_X8_217 rfl rfl rfl (by omega) rfl (by simp [Value.category]) hM (fun v σ' h => kk v σ' h)
set_option maxRecDepth 20000 in
theorem R_X9_firstRow_0 {ω : WT} {κ : KT} {l : Launch} {d : Nat} {post : Option Value → St → Prop} {σ : St}  (K : Cm ω κ l yX9_firstRow cX9_firstRow 3 d none post)
    (k1 : V ω κ 2 [(0, .ref (ω.2.2.1 35)), (1, .int (0 : Int32))] [] σ) :
    V ω κ 0 [(0, .ref (ω.2.2.1 35))] [] σ := by
  refine V_iconst (v := 0) K.1 dX9_firstRow_0 (by decide) ?_
  refine V_istore_n (L' := [(0, .ref (ω.2.2.1 35)), (1, .int (0 : Int32))]) K.1 dX9_firstRow_1 rfl (by decide) rfl ?_
  exact k1
set_option maxRecDepth 20000 in
theorem R_X9_firstRow_2 {ω : WT} {κ : KT} {l : Launch} {d : Nat} {post : Option Value → St → Prop} {σ : St} {x1 : Int32}  (K : Cm ω κ l yX9_firstRow cX9_firstRow 3 d none post)
    (k1 : ((σ.1 2251) ≤ x1) → V ω κ 30 [(0, .ref (ω.2.2.1 35)), (1, .int (1 : Int32))] [] σ)
    (b2 : ¬ ((σ.1 2251) ≤ x1) → vp_in x1 6)
    (b3 : ¬ ((σ.1 2251) ≤ x1) → vp_in x1 6)
    (k4 : ¬ ((σ.1 2251) ≤ x1) → V ω κ 2 [(0, .ref (ω.2.2.1 35)), (1, .int (x1 + 1))] [] (pA σ 54 (x1).toNatClampNeg (σ.2.1 41 (x1).toNatClampNeg))) :
    V ω κ 2 [(0, .ref (ω.2.2.1 35)), (1, .int x1)] [] σ := by
  refine V_iload_n 1 K.1 dX9_firstRow_2 rfl rfl ?_
  refine V_aload_n 0 K.1 dX9_firstRow_3 rfl rfl ?_
  refine V_get (v := .int (σ.1 2251)) K.1 dX9_firstRow_4 rfl rfl fw_X9_130 rfl rfl ?_
  refine V_icmp_ge (tgt := 28) K.1 dX9_firstRow_7 (by decide) (fun c7 => ?_) (fun c7 => ?_)
  · refine V_iconst (v := 1) K.1 dX9_firstRow_28 (by decide) ?_
    refine V_istore_n (L' := [(0, .ref (ω.2.2.1 35)), (1, .int (1 : Int32))]) K.1 dX9_firstRow_29 rfl (by decide) rfl ?_
    exact (k1 c7)
  · refine V_aload_n 0 K.1 dX9_firstRow_10 rfl rfl ?_
    refine V_get (v := .ref (ω.2.2.1 54)) K.1 dX9_firstRow_11 rfl rfl fw_X9_65 rfl rfl ?_
    refine V_iload_n 1 K.1 dX9_firstRow_14 rfl rfl ?_
    refine V_aload_n 0 K.1 dX9_firstRow_15 rfl rfl ?_
    refine V_get (v := .ref (ω.2.2.1 41)) K.1 dX9_firstRow_16 rfl rfl fw_X9_25 rfl rfl ?_
    refine V_iload_n 1 K.1 dX9_firstRow_19 rfl rfl ?_
    refine V_iaload (v := (σ.2.1 41 (x1).toNatClampNeg)) K.1 dX9_firstRow_20 rfl (b2 c7) rfl ?_
    refine V_iastore K.1 dX9_firstRow_21 rfl (b3 c7) ?_
    refine V_iinc (v := (x1 + 1)) (L' := [(0, .ref (ω.2.2.1 35)), (1, .int (x1 + 1))]) 1 K.1 dX9_firstRow_22 rfl rfl (by decide) rfl ?_
    refine V_goto (tgt := 2) K.1 dX9_firstRow_25 (by decide) ?_
    exact (k4 c7)
set_option maxRecDepth 20000 in
theorem R_X9_firstRow_30 {ω : WT} {κ : KT} {l : Launch} {d : Nat} {post : Option Value → St → Prop} {σ : St} {x1 : Int32}  (K : Cm ω κ l yX9_firstRow cX9_firstRow 3 d none post)
    (k1 : ((σ.1 2251) ≤ x1) → post none σ)
    (k2 : ¬ ((σ.1 2251) ≤ x1) → V ω κ 40 [(0, .ref (ω.2.2.1 35)), (1, .int x1), (2, .int x1)] [] σ) :
    V ω κ 30 [(0, .ref (ω.2.2.1 35)), (1, .int x1)] [] σ := by
  refine V_iload_n 1 K.1 dX9_firstRow_30 rfl rfl ?_
  refine V_aload_n 0 K.1 dX9_firstRow_31 rfl rfl ?_
  refine V_get (v := .int (σ.1 2251)) K.1 dX9_firstRow_32 rfl rfl fw_X9_130 rfl rfl ?_
  refine V_icmp_ge (tgt := 81) K.1 dX9_firstRow_35 (by decide) (fun c35 => ?_) (fun c35 => ?_)
  · exact V_vret K dX9_firstRow_81 (k1 c35)
  · refine V_iload_n 1 K.1 dX9_firstRow_38 rfl rfl ?_
    refine V_istore_n (L' := [(0, .ref (ω.2.2.1 35)), (1, .int x1), (2, .int x1)]) K.1 dX9_firstRow_39 rfl (by decide) rfl ?_
    exact (k2 c35)
set_option maxRecDepth 20000 in
theorem R_X9_firstRow_40 {ω : WT} {κ : KT} {l : Launch} {d : Nat} {post : Option Value → St → Prop} {σ : St} {x1 x2 : Int32}  (K : Cm ω κ l yX9_firstRow cX9_firstRow 3 d none post) (hdp : 1 ≤ d)
    (k1 : (x2 ≤ 0) → V ω κ 30 [(0, .ref (ω.2.2.1 35)), (1, .int (x1 + 1))] [] σ)
    (b2 : ¬ (x2 ≤ 0) → vp_in x2 6)
    (b3 : ¬ (x2 ≤ 0) → vp_in (x2 - (1 : Int32)) 6)
    (k4 : ¬ (x2 ≤ 0) → ((σ.2.1 54 ((x2 - (1 : Int32))).toNatClampNeg) ≤ (σ.2.1 54 (x2).toNatClampNeg)) → V ω κ 30 [(0, .ref (ω.2.2.1 35)), (1, .int (x1 + 1))] [] σ)
    (p5 : ¬ (x2 ≤ 0) → ¬ ((σ.2.1 54 ((x2 - (1 : Int32))).toNatClampNeg) ≤ (σ.2.1 54 (x2).toNatClampNeg)) → vp_in x2 6)
    (p6 : ¬ (x2 ≤ 0) → ¬ ((σ.2.1 54 ((x2 - (1 : Int32))).toNatClampNeg) ≤ (σ.2.1 54 (x2).toNatClampNeg)) → vp_in (x2 - (1 : Int32)) 6)
    (p7 : ¬ (x2 ≤ 0) → ¬ ((σ.2.1 54 ((x2 - (1 : Int32))).toNatClampNeg) ≤ (σ.2.1 54 (x2).toNatClampNeg)) → vp_in x2 6)
    (p8 : ¬ (x2 ≤ 0) → ¬ ((σ.2.1 54 ((x2 - (1 : Int32))).toNatClampNeg) ≤ (σ.2.1 54 (x2).toNatClampNeg)) → vp_in (x2 - (1 : Int32)) 6)
    (k9 : ¬ (x2 ≤ 0) → ¬ ((σ.2.1 54 ((x2 - (1 : Int32))).toNatClampNeg) ≤ (σ.2.1 54 (x2).toNatClampNeg)) → V ω κ 40 [(0, .ref (ω.2.2.1 35)), (1, .int x1), (2, .int (x2 + -1))] [] (pA (pA σ 54 (x2).toNatClampNeg (σ.2.1 54 ((x2 - (1 : Int32))).toNatClampNeg)) 54 ((x2 - (1 : Int32))).toNatClampNeg (σ.2.1 54 (x2).toNatClampNeg))) :
    V ω κ 40 [(0, .ref (ω.2.2.1 35)), (1, .int x1), (2, .int x2)] [] σ := by
  refine V_iload_n 2 K.1 dX9_firstRow_40 rfl rfl ?_
  refine V_if_le (tgt := 75) K.1 dX9_firstRow_41 (by decide) (fun c41 => ?_) (fun c41 => ?_)
  · refine V_iinc (v := (x1 + 1)) (L' := [(0, .ref (ω.2.2.1 35)), (1, .int (x1 + 1)), (2, .int x2)]) 1 K.1 dX9_firstRow_75 rfl rfl (by decide) rfl ?_
    refine V_goto (tgt := 30) K.1 dX9_firstRow_78 (by decide) ?_
    exact V_sub [0, 1] rfl (k1 c41)
  · refine V_aload_n 0 K.1 dX9_firstRow_44 rfl rfl ?_
    refine V_get (v := .ref (ω.2.2.1 54)) K.1 dX9_firstRow_45 rfl rfl fw_X9_65 rfl rfl ?_
    refine V_iload_n 2 K.1 dX9_firstRow_48 rfl rfl ?_
    refine V_iaload (v := (σ.2.1 54 (x2).toNatClampNeg)) K.1 dX9_firstRow_49 rfl (b2 c41) rfl ?_
    refine V_aload_n 0 K.1 dX9_firstRow_50 rfl rfl ?_
    refine V_get (v := .ref (ω.2.2.1 54)) K.1 dX9_firstRow_51 rfl rfl fw_X9_65 rfl rfl ?_
    refine V_iload_n 2 K.1 dX9_firstRow_54 rfl rfl ?_
    refine V_iconst (v := 1) K.1 dX9_firstRow_55 (by decide) ?_
    refine V_isub K.1 dX9_firstRow_56 ?_
    refine V_iaload (v := (σ.2.1 54 ((x2 - (1 : Int32))).toNatClampNeg)) K.1 dX9_firstRow_57 rfl (b3 c41) rfl ?_
    refine V_icmp_ge (tgt := 75) K.1 dX9_firstRow_58 (by decide) (fun c58 => ?_) (fun c58 => ?_)
    · refine V_iinc (v := (x1 + 1)) (L' := [(0, .ref (ω.2.2.1 35)), (1, .int (x1 + 1)), (2, .int x2)]) 1 K.1 dX9_firstRow_75 rfl rfl (by decide) rfl ?_
      refine V_goto (tgt := 30) K.1 dX9_firstRow_78 (by decide) ?_
      exact V_sub [0, 1] rfl (k4 c41 c58)
    · refine V_aload_n 0 K.1 dX9_firstRow_61 rfl rfl ?_
      refine V_iload_n 2 K.1 dX9_firstRow_62 rfl rfl ?_
      refine V_iload_n 2 K.1 dX9_firstRow_63 rfl rfl ?_
      refine V_iconst (v := 1) K.1 dX9_firstRow_64 (by decide) ?_
      refine V_isub K.1 dX9_firstRow_65 ?_
      refine V_callV (d' := d - 1) (As := [.int x2, .int (x2 - (1 : Int32))]) K.1 dX9_firstRow_66 cw_X9_249 rfl rfl rfl (by omega) rfl (by simp [Value.category]) (m_X9_exchange K.1.wf (by omega) (p5 c41 c58) (p6 c41 c58) (p7 c41 c58) (p8 c41 c58)) (go_V ?_)
      refine V_iinc (v := (x2 + -1)) (L' := [(0, .ref (ω.2.2.1 35)), (1, .int x1), (2, .int (x2 + -1))]) 2 K.1 dX9_firstRow_69 rfl rfl (by decide) rfl ?_
      refine V_goto (tgt := 40) K.1 dX9_firstRow_72 (by decide) ?_
      exact (k9 c41 c58)
set_option maxRecDepth 20000 in
theorem R_X9_nextRow_0 {ω : WT} {κ : KT} {l : Launch} {d : Nat} {post : Option Value → St → Prop} {σ : St}  (K : Cm ω κ l yX9_nextRow cX9_nextRow 5 d (some .boolean) post)
    (k1 : V ω κ 7 [(0, .ref (ω.2.2.1 35)), (1, .int ((σ.1 2251) - (2 : Int32)))] [] σ) :
    V ω κ 0 [(0, .ref (ω.2.2.1 35))] [] σ := by
  refine V_aload_n 0 K.1 dX9_nextRow_0 rfl rfl ?_
  refine V_get (v := .int (σ.1 2251)) K.1 dX9_nextRow_1 rfl rfl fw_X9_130 rfl rfl ?_
  refine V_iconst (v := 2) K.1 dX9_nextRow_4 (by decide) ?_
  refine V_isub K.1 dX9_nextRow_5 ?_
  refine V_istore_n (L' := [(0, .ref (ω.2.2.1 35)), (1, .int ((σ.1 2251) - (2 : Int32)))]) K.1 dX9_nextRow_6 rfl (by decide) rfl ?_
  exact k1
set_option maxRecDepth 20000 in
theorem R_X9_nextRow_7 {ω : WT} {κ : KT} {l : Launch} {d : Nat} {post : Option Value → St → Prop} {σ : St} {x1 : Int32}  (K : Cm ω κ l yX9_nextRow cX9_nextRow 5 d (some .boolean) post)
    (k1 : (x1 < 0) → (0 ≤ x1) → V ω κ 47 [(0, .ref (ω.2.2.1 35)), (1, .int x1), (2, .int ((σ.1 2251) - (1 : Int32)))] [] σ)
    (k2 : (x1 < 0) → ¬ (0 ≤ x1) → post (some (.int (0 : Int32))) σ)
    (b3 : ¬ (x1 < 0) → vp_in x1 6)
    (b4 : ¬ (x1 < 0) → vp_in (x1 + (1 : Int32)) 6)
    (k5 : ¬ (x1 < 0) → ((σ.2.1 54 (x1).toNatClampNeg) ≤ (σ.2.1 54 ((x1 + (1 : Int32))).toNatClampNeg)) → (0 ≤ x1) → V ω κ 47 [(0, .ref (ω.2.2.1 35)), (1, .int x1), (2, .int ((σ.1 2251) - (1 : Int32)))] [] σ)
    (k6 : ¬ (x1 < 0) → ((σ.2.1 54 (x1).toNatClampNeg) ≤ (σ.2.1 54 ((x1 + (1 : Int32))).toNatClampNeg)) → ¬ (0 ≤ x1) → post (some (.int (0 : Int32))) σ)
    (k7 : ¬ (x1 < 0) → ¬ ((σ.2.1 54 (x1).toNatClampNeg) ≤ (σ.2.1 54 ((x1 + (1 : Int32))).toNatClampNeg)) → V ω κ 7 [(0, .ref (ω.2.2.1 35)), (1, .int (x1 + -1))] [] σ) :
    V ω κ 7 [(0, .ref (ω.2.2.1 35)), (1, .int x1)] [] σ := by
  refine V_iload_n 1 K.1 dX9_nextRow_7 rfl rfl ?_
  refine V_if_lt (tgt := 34) K.1 dX9_nextRow_8 (by decide) (fun c8 => ?_) (fun c8 => ?_)
  · refine V_iload_n 1 K.1 dX9_nextRow_34 rfl rfl ?_
    refine V_if_ge (tgt := 40) K.1 dX9_nextRow_35 (by decide) (fun c35 => ?_) (fun c35 => ?_)
    · refine V_aload_n 0 K.1 dX9_nextRow_40 rfl rfl ?_
      refine V_get (v := .int (σ.1 2251)) K.1 dX9_nextRow_41 rfl rfl fw_X9_130 rfl rfl ?_
      refine V_iconst (v := 1) K.1 dX9_nextRow_44 (by decide) ?_
      refine V_isub K.1 dX9_nextRow_45 ?_
      refine V_istore_n (L' := [(0, .ref (ω.2.2.1 35)), (1, .int x1), (2, .int ((σ.1 2251) - (1 : Int32)))]) K.1 dX9_nextRow_46 rfl (by decide) rfl ?_
      exact (k1 c8 c35)
    · refine V_iconst (v := 0) K.1 dX9_nextRow_38 (by decide) ?_
      exact V_zret K dX9_nextRow_39 (Or.inl rfl) (k2 c8 c35)
  · refine V_aload_n 0 K.1 dX9_nextRow_11 rfl rfl ?_
    refine V_get (v := .ref (ω.2.2.1 54)) K.1 dX9_nextRow_12 rfl rfl fw_X9_65 rfl rfl ?_
    refine V_iload_n 1 K.1 dX9_nextRow_15 rfl rfl ?_
    refine V_iaload (v := (σ.2.1 54 (x1).toNatClampNeg)) K.1 dX9_nextRow_16 rfl (b3 c8) rfl ?_
    refine V_aload_n 0 K.1 dX9_nextRow_17 rfl rfl ?_
    refine V_get (v := .ref (ω.2.2.1 54)) K.1 dX9_nextRow_18 rfl rfl fw_X9_65 rfl rfl ?_
    refine V_iload_n 1 K.1 dX9_nextRow_21 rfl rfl ?_
    refine V_iconst (v := 1) K.1 dX9_nextRow_22 (by decide) ?_
    refine V_iadd K.1 dX9_nextRow_23 ?_
    refine V_iaload (v := (σ.2.1 54 ((x1 + (1 : Int32))).toNatClampNeg)) K.1 dX9_nextRow_24 rfl (b4 c8) rfl ?_
    refine V_icmp_le (tgt := 34) K.1 dX9_nextRow_25 (by decide) (fun c25 => ?_) (fun c25 => ?_)
    · refine V_iload_n 1 K.1 dX9_nextRow_34 rfl rfl ?_
      refine V_if_ge (tgt := 40) K.1 dX9_nextRow_35 (by decide) (fun c35 => ?_) (fun c35 => ?_)
      · refine V_aload_n 0 K.1 dX9_nextRow_40 rfl rfl ?_
        refine V_get (v := .int (σ.1 2251)) K.1 dX9_nextRow_41 rfl rfl fw_X9_130 rfl rfl ?_
        refine V_iconst (v := 1) K.1 dX9_nextRow_44 (by decide) ?_
        refine V_isub K.1 dX9_nextRow_45 ?_
        refine V_istore_n (L' := [(0, .ref (ω.2.2.1 35)), (1, .int x1), (2, .int ((σ.1 2251) - (1 : Int32)))]) K.1 dX9_nextRow_46 rfl (by decide) rfl ?_
        exact (k5 c8 c25 c35)
      · refine V_iconst (v := 0) K.1 dX9_nextRow_38 (by decide) ?_
        exact V_zret K dX9_nextRow_39 (Or.inl rfl) (k6 c8 c25 c35)
    · refine V_iinc (v := (x1 + -1)) (L' := [(0, .ref (ω.2.2.1 35)), (1, .int (x1 + -1))]) 1 K.1 dX9_nextRow_28 rfl rfl (by decide) rfl ?_
      refine V_goto (tgt := 7) K.1 dX9_nextRow_31 (by decide) ?_
      exact (k7 c8 c25)
set_option maxRecDepth 20000 in
theorem R_X9_nextRow_47 {ω : WT} {κ : KT} {l : Launch} {d : Nat} {post : Option Value → St → Prop} {σ : St} {x1 x2 : Int32}  (K : Cm ω κ l yX9_nextRow cX9_nextRow 5 d (some .boolean) post) (hdp : 1 ≤ d)
    (b1 : vp_in x2 6)
    (b2 : vp_in x1 6)
    (p3 : ((σ.2.1 54 (x1).toNatClampNeg) ≤ (σ.2.1 54 (x2).toNatClampNeg)) → vp_in x1 6)
    (p4 : ((σ.2.1 54 (x1).toNatClampNeg) ≤ (σ.2.1 54 (x2).toNatClampNeg)) → vp_in x2 6)
    (p5 : ((σ.2.1 54 (x1).toNatClampNeg) ≤ (σ.2.1 54 (x2).toNatClampNeg)) → vp_in x1 6)
    (p6 : ((σ.2.1 54 (x1).toNatClampNeg) ≤ (σ.2.1 54 (x2).toNatClampNeg)) → vp_in x2 6)
    (k7 : ((σ.2.1 54 (x1).toNatClampNeg) ≤ (σ.2.1 54 (x2).toNatClampNeg)) → V ω κ 86 [(0, .ref (ω.2.2.1 35)), (3, .int (x1 + (1 : Int32))), (4, .int ((σ.1 2251) - (1 : Int32)))] [] (pA (pA σ 54 (x1).toNatClampNeg (σ.2.1 54 (x2).toNatClampNeg)) 54 (x2).toNatClampNeg (σ.2.1 54 (x1).toNatClampNeg)))
    (k8 : ¬ ((σ.2.1 54 (x1).toNatClampNeg) ≤ (σ.2.1 54 (x2).toNatClampNeg)) → V ω κ 47 [(0, .ref (ω.2.2.1 35)), (1, .int x1), (2, .int (x2 + -1))] [] σ) :
    V ω κ 47 [(0, .ref (ω.2.2.1 35)), (1, .int x1), (2, .int x2)] [] σ := by
  refine V_aload_n 0 K.1 dX9_nextRow_47 rfl rfl ?_
  refine V_get (v := .ref (ω.2.2.1 54)) K.1 dX9_nextRow_48 rfl rfl fw_X9_65 rfl rfl ?_
  refine V_iload_n 2 K.1 dX9_nextRow_51 rfl rfl ?_
  refine V_iaload (v := (σ.2.1 54 (x2).toNatClampNeg)) K.1 dX9_nextRow_52 rfl b1 rfl ?_
  refine V_aload_n 0 K.1 dX9_nextRow_53 rfl rfl ?_
  refine V_get (v := .ref (ω.2.2.1 54)) K.1 dX9_nextRow_54 rfl rfl fw_X9_65 rfl rfl ?_
  refine V_iload_n 1 K.1 dX9_nextRow_57 rfl rfl ?_
  refine V_iaload (v := (σ.2.1 54 (x1).toNatClampNeg)) K.1 dX9_nextRow_58 rfl b2 rfl ?_
  refine V_icmp_ge (tgt := 68) K.1 dX9_nextRow_59 (by decide) (fun c59 => ?_) (fun c59 => ?_)
  · refine V_aload_n 0 K.1 dX9_nextRow_68 rfl rfl ?_
    refine V_iload_n 1 K.1 dX9_nextRow_69 rfl rfl ?_
    refine V_iload_n 2 K.1 dX9_nextRow_70 rfl rfl ?_
    refine V_callV (d' := d - 1) (As := [.int x1, .int x2]) K.1 dX9_nextRow_71 cw_X9_249 rfl rfl rfl (by omega) rfl (by simp [Value.category]) (m_X9_exchange K.1.wf (by omega) (p3 c59) (p4 c59) (p5 c59) (p6 c59)) (go_V ?_)
    refine V_iload_n 1 K.1 dX9_nextRow_74 rfl rfl ?_
    refine V_iconst (v := 1) K.1 dX9_nextRow_75 (by decide) ?_
    refine V_iadd K.1 dX9_nextRow_76 ?_
    refine V_istore_n (L' := [(0, .ref (ω.2.2.1 35)), (1, .int x1), (2, .int x2), (3, .int (x1 + (1 : Int32)))]) K.1 dX9_nextRow_77 rfl (by decide) rfl ?_
    refine V_aload_n 0 K.1 dX9_nextRow_78 rfl rfl ?_
    refine V_get (v := .int (σ.1 2251)) K.1 dX9_nextRow_79 rfl rfl fw_X9_130 rfl rfl ?_
    refine V_iconst (v := 1) K.1 dX9_nextRow_82 (by decide) ?_
    refine V_isub K.1 dX9_nextRow_83 ?_
    refine V_istore (L' := [(0, .ref (ω.2.2.1 35)), (1, .int x1), (2, .int x2), (3, .int (x1 + (1 : Int32))), (4, .int ((σ.1 2251) - (1 : Int32)))]) K.1 dX9_nextRow_84 (by decide) rfl ?_
    exact V_sub [0, 3, 4] rfl (k7 c59)
  · refine V_iinc (v := (x2 + -1)) (L' := [(0, .ref (ω.2.2.1 35)), (1, .int x1), (2, .int (x2 + -1))]) 2 K.1 dX9_nextRow_62 rfl rfl (by decide) rfl ?_
    refine V_goto (tgt := 47) K.1 dX9_nextRow_65 (by decide) ?_
    exact (k8 c59)
set_option maxRecDepth 20000 in
theorem R_X9_nextRow_86 {ω : WT} {κ : KT} {l : Launch} {d : Nat} {post : Option Value → St → Prop} {σ : St} {x3 x4 : Int32}  (K : Cm ω κ l yX9_nextRow cX9_nextRow 5 d (some .boolean) post) (hdp : 1 ≤ d)
    (k1 : (x4 ≤ x3) → post (some (.int (1 : Int32))) σ)
    (p2 : ¬ (x4 ≤ x3) → vp_in x3 6)
    (p3 : ¬ (x4 ≤ x3) → vp_in x4 6)
    (p4 : ¬ (x4 ≤ x3) → vp_in x3 6)
    (p5 : ¬ (x4 ≤ x3) → vp_in x4 6)
    (k6 : ¬ (x4 ≤ x3) → V ω κ 86 [(0, .ref (ω.2.2.1 35)), (3, .int (x3 + 1)), (4, .int (x4 + -1))] [] (pA (pA σ 54 (x3).toNatClampNeg (σ.2.1 54 (x4).toNatClampNeg)) 54 (x4).toNatClampNeg (σ.2.1 54 (x3).toNatClampNeg))) :
    V ω κ 86 [(0, .ref (ω.2.2.1 35)), (3, .int x3), (4, .int x4)] [] σ := by
  refine V_iload_n 1 K.1 dX9_nextRow_86 rfl rfl ?_
  refine V_iload 2 K.1 dX9_nextRow_87 rfl ?_
  refine V_icmp_ge (tgt := 108) K.1 dX9_nextRow_89 (by decide) (fun c89 => ?_) (fun c89 => ?_)
  · refine V_iconst (v := 1) K.1 dX9_nextRow_108 (by decide) ?_
    exact V_zret K dX9_nextRow_109 (Or.inr rfl) (k1 c89)
  · refine V_aload_n 0 K.1 dX9_nextRow_92 rfl rfl ?_
    refine V_iload_n 1 K.1 dX9_nextRow_93 rfl rfl ?_
    refine V_iload 2 K.1 dX9_nextRow_94 rfl ?_
    refine V_callV (d' := d - 1) (As := [.int x3, .int x4]) K.1 dX9_nextRow_96 cw_X9_249 rfl rfl rfl (by omega) rfl (by simp [Value.category]) (m_X9_exchange K.1.wf (by omega) (p2 c89) (p3 c89) (p4 c89) (p5 c89)) (go_V ?_)
    refine V_iinc (v := (x3 + 1)) (L' := [(0, .ref (ω.2.2.1 35)), (3, .int (x3 + 1)), (4, .int x4)]) 1 K.1 dX9_nextRow_99 rfl rfl (by decide) rfl ?_
    refine V_iinc (v := (x4 + -1)) (L' := [(0, .ref (ω.2.2.1 35)), (3, .int (x3 + 1)), (4, .int (x4 + -1))]) 2 K.1 dX9_nextRow_102 rfl rfl (by decide) rfl ?_
    refine V_goto (tgt := 86) K.1 dX9_nextRow_105 (by decide) ?_
    exact (k6 c89)
set_option maxRecDepth 20000 in
theorem R_X9_outcomeInOrder_0 {ω : WT} {κ : KT} {l : Launch} {d : Nat} {post : Option Value → St → Prop} {σ : St} {x1 : Int32}  (K : Cm ω κ l yX9_outcomeInOrder cX9_outcomeInOrder 4 d (some .int) post)
    (k1 : V ω κ 5 [(0, .ref (ω.2.2.1 35)), (1, .int x1), (2, .int (-9 : Int32)), (3, .int (0 : Int32))] [] σ) :
    V ω κ 0 [(0, .ref (ω.2.2.1 35)), (1, .int x1)] [] σ := by
  refine V_bipush (v := -9) K.1 dX9_outcomeInOrder_0 (by decide) ?_
  refine V_istore_n (L' := [(0, .ref (ω.2.2.1 35)), (1, .int x1), (2, .int (-9 : Int32))]) K.1 dX9_outcomeInOrder_2 rfl (by decide) rfl ?_
  refine V_iconst (v := 0) K.1 dX9_outcomeInOrder_3 (by decide) ?_
  refine V_istore_n (L' := [(0, .ref (ω.2.2.1 35)), (1, .int x1), (2, .int (-9 : Int32)), (3, .int (0 : Int32))]) K.1 dX9_outcomeInOrder_4 rfl (by decide) rfl ?_
  exact k1
set_option maxRecDepth 20000 in
theorem R_X9_outcomeInOrder_5 {ω : WT} {κ : KT} {l : Launch} {d : Nat} {post : Option Value → St → Prop} {σ : St} {x1 x2 x3 : Int32}  (K : Cm ω κ l yX9_outcomeInOrder cX9_outcomeInOrder 4 d (some .int) post)
    (k1 : ((σ.1 2251) ≤ x3) → post (some (.int x2)) σ)
    (b2 : ¬ ((σ.1 2251) ≤ x3) → vp_in x3 6)
    (b4 : ¬ ((σ.1 2251) ≤ x3) → ((σ.2.1 54 (x3).toNatClampNeg) = x1) → vp_in x3 6)
    (k5 : ¬ ((σ.1 2251) ≤ x3) → V ω κ 5 [(0, .ref (ω.2.2.1 35)), (1, .int x1), (2, .int (if ((σ.2.1 54 (x3).toNatClampNeg) = x1) then (σ.2.1 46 (x3).toNatClampNeg) else x2)), (3, .int (x3 + 1))] [] σ) :
    V ω κ 5 [(0, .ref (ω.2.2.1 35)), (1, .int x1), (2, .int x2), (3, .int x3)] [] σ := by
  refine V_iload_n 3 K.1 dX9_outcomeInOrder_5 rfl rfl ?_
  refine V_aload_n 0 K.1 dX9_outcomeInOrder_6 rfl rfl ?_
  refine V_get (v := .int (σ.1 2251)) K.1 dX9_outcomeInOrder_7 rfl rfl fw_X9_130 rfl rfl ?_
  refine V_icmp_ge (tgt := 40) K.1 dX9_outcomeInOrder_10 (by decide) (fun c10 => ?_) (fun c10 => ?_)
  · refine V_iload_n 2 K.1 dX9_outcomeInOrder_40 rfl rfl ?_
    exact V_iret K dX9_outcomeInOrder_41 (k1 c10)
  · refine V_aload_n 0 K.1 dX9_outcomeInOrder_13 rfl rfl ?_
    refine V_get (v := .ref (ω.2.2.1 54)) K.1 dX9_outcomeInOrder_14 rfl rfl fw_X9_65 rfl rfl ?_
    refine V_iload_n 3 K.1 dX9_outcomeInOrder_17 rfl rfl ?_
    refine V_iaload (v := (σ.2.1 54 (x3).toNatClampNeg)) K.1 dX9_outcomeInOrder_18 rfl (b2 c10) rfl ?_
    refine V_iload_n 1 K.1 dX9_outcomeInOrder_19 rfl rfl ?_
    refine V_join (J := 33) (S := []) (v := .int (if ((σ.2.1 54 (x3).toNatClampNeg) = x1) then (σ.2.1 46 (x3).toNatClampNeg) else x2)) (fun hJ3 => ?_) ?_
    · refine V_icmp_ne (tgt := 32) K.1 dX9_outcomeInOrder_20 (by decide) (fun c20 => ?_) (fun c20 => ?_)
      · refine V_iload_n 2 K.1 dX9_outcomeInOrder_32 rfl rfl ?_
        exact V_top (if_neg c20) hJ3
      · refine V_aload_n 0 K.1 dX9_outcomeInOrder_23 rfl rfl ?_
        refine V_get (v := .ref (ω.2.2.1 46)) K.1 dX9_outcomeInOrder_24 rfl rfl fw_X9_40 rfl rfl ?_
        refine V_iload_n 3 K.1 dX9_outcomeInOrder_27 rfl rfl ?_
        refine V_iaload (v := (σ.2.1 46 (x3).toNatClampNeg)) K.1 dX9_outcomeInOrder_28 rfl (b4 c10 c20) rfl ?_
        refine V_goto (tgt := 33) K.1 dX9_outcomeInOrder_29 (by decide) ?_
        exact V_top (if_pos c20) hJ3
    refine V_istore_n (L' := [(0, .ref (ω.2.2.1 35)), (1, .int x1), (2, .int (if ((σ.2.1 54 (x3).toNatClampNeg) = x1) then (σ.2.1 46 (x3).toNatClampNeg) else x2)), (3, .int x3)]) K.1 dX9_outcomeInOrder_33 rfl (by decide) rfl ?_
    refine V_iinc (v := (x3 + 1)) (L' := [(0, .ref (ω.2.2.1 35)), (1, .int x1), (2, .int (if ((σ.2.1 54 (x3).toNatClampNeg) = x1) then (σ.2.1 46 (x3).toNatClampNeg) else x2)), (3, .int (x3 + 1))]) 3 K.1 dX9_outcomeInOrder_34 rfl rfl (by decide) rfl ?_
    refine V_goto (tgt := 5) K.1 dX9_outcomeInOrder_37 (by decide) ?_
    exact (k5 c10)
set_option maxRecDepth 20000 in
theorem R_X9_isOnceShut_0 {ω : WT} {κ : KT} {l : Launch} {d : Nat} {post : Option Value → St → Prop} {σ : St}  (K : Cm ω κ l yX9_isOnceShut cX9_isOnceShut 3 d (some .boolean) post)
    (k1 : V ω κ 4 [(0, .ref (ω.2.2.1 35)), (1, .int (0 : Int32)), (2, .int (0 : Int32))] [] σ) :
    V ω κ 0 [(0, .ref (ω.2.2.1 35))] [] σ := by
  refine V_iconst (v := 0) K.1 dX9_isOnceShut_0 (by decide) ?_
  refine V_istore_n (L' := [(0, .ref (ω.2.2.1 35)), (1, .int (0 : Int32))]) K.1 dX9_isOnceShut_1 rfl (by decide) rfl ?_
  refine V_iconst (v := 0) K.1 dX9_isOnceShut_2 (by decide) ?_
  refine V_istore_n (L' := [(0, .ref (ω.2.2.1 35)), (1, .int (0 : Int32)), (2, .int (0 : Int32))]) K.1 dX9_isOnceShut_3 rfl (by decide) rfl ?_
  exact k1
set_option maxRecDepth 20000 in
theorem R_X9_isOnceShut_4 {ω : WT} {κ : KT} {l : Launch} {d : Nat} {post : Option Value → St → Prop} {σ : St} {x1 x2 : Int32}  (K : Cm ω κ l yX9_isOnceShut cX9_isOnceShut 3 d (some .boolean) post)
    (z1 : ((σ.1 2251) ≤ x2) → x1 = 0 ∨ x1 = 1)
    (k2 : ((σ.1 2251) ≤ x2) → post (some (.int x1)) σ)
    (b4 : ¬ ((σ.1 2251) ≤ x2) → (x1 = 0) → vp_in x2 6)
    (k5 : ¬ ((σ.1 2251) ≤ x2) → V ω κ 4 [(0, .ref (ω.2.2.1 35)), (1, .int (if (x1 = 0) then (if ((σ.2.1 47 (x2).toNatClampNeg) = 0) then (1 : Int32) else (0 : Int32)) else (1 : Int32))), (2, .int (x2 + 1))] [] σ) :
    V ω κ 4 [(0, .ref (ω.2.2.1 35)), (1, .int x1), (2, .int x2)] [] σ := by
  refine V_iload_n 2 K.1 dX9_isOnceShut_4 rfl rfl ?_
  refine V_aload_n 0 K.1 dX9_isOnceShut_5 rfl rfl ?_
  refine V_get (v := .int (σ.1 2251)) K.1 dX9_isOnceShut_6 rfl rfl fw_X9_130 rfl rfl ?_
  refine V_icmp_ge (tgt := 37) K.1 dX9_isOnceShut_9 (by decide) (fun c9 => ?_) (fun c9 => ?_)
  · refine V_iload_n 1 K.1 dX9_isOnceShut_37 rfl rfl ?_
    exact V_zret K dX9_isOnceShut_38 (z1 c9) (k2 c9)
  · refine V_iload_n 1 K.1 dX9_isOnceShut_12 rfl rfl ?_
    refine V_join (J := 30) (S := []) (v := .int (if (x1 = 0) then (if ((σ.2.1 47 (x2).toNatClampNeg) = 0) then (1 : Int32) else (0 : Int32)) else (1 : Int32))) (fun hJ3 => ?_) ?_
    · refine V_if_ne (tgt := 25) K.1 dX9_isOnceShut_13 (by decide) (fun c13 => ?_) (fun c13 => ?_)
      · refine V_iconst (v := 1) K.1 dX9_isOnceShut_25 (by decide) ?_
        refine V_goto (tgt := 30) K.1 dX9_isOnceShut_26 (by decide) ?_
        exact V_top (if_neg c13) hJ3
      · refine V_aload_n 0 K.1 dX9_isOnceShut_16 rfl rfl ?_
        refine V_get (v := .ref (ω.2.2.1 47)) K.1 dX9_isOnceShut_17 rfl rfl fw_X9_43 rfl rfl ?_
        refine V_iload_n 2 K.1 dX9_isOnceShut_20 rfl rfl ?_
        refine V_iaload (v := (σ.2.1 47 (x2).toNatClampNeg)) K.1 dX9_isOnceShut_21 rfl (b4 c9 c13) rfl ?_
        refine V_if_ne (tgt := 29) K.1 dX9_isOnceShut_22 (by decide) (fun c22 => ?_) (fun c22 => ?_)
        · refine V_iconst (v := 0) K.1 dX9_isOnceShut_29 (by decide) ?_
          exact V_top ((if_pos c13).trans (if_neg c22)) hJ3
        · refine V_iconst (v := 1) K.1 dX9_isOnceShut_25 (by decide) ?_
          refine V_goto (tgt := 30) K.1 dX9_isOnceShut_26 (by decide) ?_
          exact V_top ((if_pos c13).trans (if_pos c22)) hJ3
    refine V_istore_n (L' := [(0, .ref (ω.2.2.1 35)), (1, .int (if (x1 = 0) then (if ((σ.2.1 47 (x2).toNatClampNeg) = 0) then (1 : Int32) else (0 : Int32)) else (1 : Int32))), (2, .int x2)]) K.1 dX9_isOnceShut_30 rfl (by decide) rfl ?_
    refine V_iinc (v := (x2 + 1)) (L' := [(0, .ref (ω.2.2.1 35)), (1, .int (if (x1 = 0) then (if ((σ.2.1 47 (x2).toNatClampNeg) = 0) then (1 : Int32) else (0 : Int32)) else (1 : Int32))), (2, .int (x2 + 1))]) 2 K.1 dX9_isOnceShut_31 rfl rfl (by decide) rfl ?_
    refine V_goto (tgt := 4) K.1 dX9_isOnceShut_34 (by decide) ?_
    exact (k5 c9)
set_option maxRecDepth 20000 in
theorem R_X9_orders_0 {ω : WT} {κ : KT} {l : Launch} {d : Nat} {post : Option Value → St → Prop} {σ : St} {x1 x2 : Int32}  (K : Cm ω κ l yX9_orders cX9_orders 6 d (some .int) post) (hdp : 1 ≤ d)
    (k1 : ((if (x1 < 0) then (0 : Int32) else (if ((σ.1 2246) ≤ x1) then (0 : Int32) else (1 : Int32))) = 0) → post (some (.int (-1 : Int32))) σ)
    (k2 : ¬ ((if (x1 < 0) then (0 : Int32) else (if ((σ.1 2246) ≤ x1) then (0 : Int32) else (1 : Int32))) = 0) → V ω κ 10 [(0, .ref (ω.2.2.1 35)), (1, .int x1), (2, .int x2)] [.int x1, .ref (ω.2.2.1 35)] σ) :
    V ω κ 0 [(0, .ref (ω.2.2.1 35)), (1, .int x1), (2, .int x2)] [] σ := by
  refine V_aload_n 0 K.1 dX9_orders_0 rfl rfl ?_
  refine V_iload_n 1 K.1 dX9_orders_1 rfl rfl ?_
  refine V_callV (d' := d - 1) (As := [.int x1]) K.1 dX9_orders_2 cw_X9_143 rfl rfl rfl (by omega) rfl (by simp [Value.category]) (m_X9_isMatter K.1.wf (by omega)) (go_I ?_)
  refine V_if_eq (tgt := 32) K.1 dX9_orders_5 (by decide) (fun c5 => ?_) (fun c5 => ?_)
  · refine V_iconst (v := -1) K.1 dX9_orders_32 (by decide) ?_
    exact V_iret K dX9_orders_33 (k1 c5)
  · refine V_aload_n 0 K.1 dX9_orders_8 rfl rfl ?_
    refine V_iload_n 1 K.1 dX9_orders_9 rfl rfl ?_
    exact (k2 c5)
set_option maxRecDepth 20000 in
theorem R_X9_orders_13 {ω : WT} {κ : KT} {l : Launch} {d : Nat} {post : Option Value → St → Prop} {σ : St} {x1 x2 s0 : Int32}  (K : Cm ω κ l yX9_orders cX9_orders 6 d (some .int) post) (hdp : 1 ≤ d)
    (k1 : (s0 = (-9 : Int32)) → post (some (.int (-1 : Int32))) σ)
    (k2 : ¬ (s0 = (-9 : Int32)) → ¬ ((if (x2 < (-1 : Int32)) then (0 : Int32) else (if (((σ.1 2251) - (1 : Int32)) < x2) then (0 : Int32) else (1 : Int32))) = 0) → V ω κ 35 [(0, .ref (ω.2.2.1 35)), (1, .int x1), (2, .int x2)] [.ref (ω.2.2.1 35)] σ)
    (k3 : ¬ (s0 = (-9 : Int32)) → ((if (x2 < (-1 : Int32)) then (0 : Int32) else (if (((σ.1 2251) - (1 : Int32)) < x2) then (0 : Int32) else (1 : Int32))) = 0) → post (some (.int (-1 : Int32))) σ) :
    V ω κ 13 [(0, .ref (ω.2.2.1 35)), (1, .int x1), (2, .int x2)] [.int s0] σ := by
  refine V_bipush (v := -9) K.1 dX9_orders_13 (by decide) ?_
  refine V_icmp_eq (tgt := 32) K.1 dX9_orders_15 (by decide) (fun c15 => ?_) (fun c15 => ?_)
  · refine V_iconst (v := -1) K.1 dX9_orders_32 (by decide) ?_
    exact V_iret K dX9_orders_33 (k1 c15)
  · refine V_iload_n 2 K.1 dX9_orders_18 rfl rfl ?_
    refine V_iconst (v := -1) K.1 dX9_orders_19 (by decide) ?_
    refine V_aload_n 0 K.1 dX9_orders_20 rfl rfl ?_
    refine V_get (v := .int (σ.1 2251)) K.1 dX9_orders_21 rfl rfl fw_X9_130 rfl rfl ?_
    refine V_iconst (v := 1) K.1 dX9_orders_24 (by decide) ?_
    refine V_isub K.1 dX9_orders_25 ?_
    refine V_callS (d' := d - 1) (As := [.int x2, .int (-1 : Int32), .int ((σ.1 2251) - (1 : Int32))]) K.1 dX9_orders_26 cw_X9_87 rfl (by omega) rfl (by simp [Value.category]) (m_X9_within K.1.wf (by omega)) (go_I ?_)
    refine V_if_ne (tgt := 34) K.1 dX9_orders_29 (by decide) (fun c29 => ?_) (fun c29 => ?_)
    · refine V_aload_n 0 K.1 dX9_orders_34 rfl rfl ?_
      exact (k2 c15 c29)
    · refine V_iconst (v := -1) K.1 dX9_orders_32 (by decide) ?_
      exact V_iret K dX9_orders_33 (k3 c15 c29)
set_option maxRecDepth 20000 in
theorem R_X9_orders_38 {ω : WT} {κ : KT} {l : Launch} {d : Nat} {post : Option Value → St → Prop} {σ : St} {x1 x2 : Int32}  (K : Cm ω κ l yX9_orders cX9_orders 6 d (some .int) post)
    (k1 : V ω κ 43 [(0, .ref (ω.2.2.1 35)), (1, .int x1), (2, .int x2), (3, .int (0 : Int32)), (4, .int (1 : Int32))] [] σ) :
    V ω κ 38 [(0, .ref (ω.2.2.1 35)), (1, .int x1), (2, .int x2)] [] σ := by
  refine V_iconst (v := 0) K.1 dX9_orders_38 (by decide) ?_
  refine V_istore_n (L' := [(0, .ref (ω.2.2.1 35)), (1, .int x1), (2, .int x2), (3, .int (0 : Int32))]) K.1 dX9_orders_39 rfl (by decide) rfl ?_
  refine V_iconst (v := 1) K.1 dX9_orders_40 (by decide) ?_
  refine V_istore (L' := [(0, .ref (ω.2.2.1 35)), (1, .int x1), (2, .int x2), (3, .int (0 : Int32)), (4, .int (1 : Int32))]) K.1 dX9_orders_41 (by decide) rfl ?_
  exact k1
set_option maxRecDepth 20000 in
theorem R_X9_orders_43 {ω : WT} {κ : KT} {l : Launch} {d : Nat} {post : Option Value → St → Prop} {σ : St} {x1 x2 x3 x4 : Int32}  (K : Cm ω κ l yX9_orders cX9_orders 6 d (some .int) post) (hdp : 2 ≤ d)
    (b2 : (x4 = 0) → ¬ (x2 = (-1 : Int32)) → ¬ (x3 = 0) → vp_in x2 6)
    (k3 : (x4 = 0) → post (some (.int (if (x2 = (-1 : Int32)) then x3 else (if (x3 = 0) then (-9 : Int32) else (σ.2.1 55 (x2).toNatClampNeg))))) σ)
    (k4 : ¬ (x4 = 0) → V ω κ 61 [(0, .ref (ω.2.2.1 35)), (1, .int x1), (2, .int x2), (3, .int x3)] [.int (σ.1 2251), .ref (ω.2.2.1 54), .ref (ω.2.2.1 35)] (pS (pS (pS (pS (pS σ 2258 (((1 : Int32) <<< ((σ.1 2245) &&& 31)) - (1 : Int32))) 2259 (0 : Int32)) 2260 ((σ.1 2245) - (1 : Int32))) 2261 (σ.1 2249)) 2262 (σ.1 2250))) :
    V ω κ 43 [(0, .ref (ω.2.2.1 35)), (1, .int x1), (2, .int x2), (3, .int x3), (4, .int x4)] [] σ := by
  refine V_iload 4 K.1 dX9_orders_43 rfl ?_
  refine V_if_eq (tgt := 121) K.1 dX9_orders_45 (by decide) (fun c45 => ?_) (fun c45 => ?_)
  · refine V_iload_n 2 K.1 dX9_orders_121 rfl rfl ?_
    refine V_iconst (v := -1) K.1 dX9_orders_122 (by decide) ?_
    refine V_join (J := 145) (S := []) (v := .int (if (x2 = (-1 : Int32)) then x3 else (if (x3 = 0) then (-9 : Int32) else (σ.2.1 55 (x2).toNatClampNeg)))) (fun hJ1 => ?_) ?_
    · refine V_icmp_ne (tgt := 130) K.1 dX9_orders_123 (by decide) (fun c123 => ?_) (fun c123 => ?_)
      · refine V_iload_n 3 K.1 dX9_orders_130 rfl rfl ?_
        refine V_if_ne (tgt := 139) K.1 dX9_orders_131 (by decide) (fun c131 => ?_) (fun c131 => ?_)
        · refine V_aload_n 0 K.1 dX9_orders_139 rfl rfl ?_
          refine V_get (v := .ref (ω.2.2.1 55)) K.1 dX9_orders_140 rfl rfl fw_X9_68 rfl rfl ?_
          refine V_iload_n 2 K.1 dX9_orders_143 rfl rfl ?_
          refine V_iaload (v := (σ.2.1 55 (x2).toNatClampNeg)) K.1 dX9_orders_144 rfl (b2 c45 c123 c131) rfl ?_
          exact V_top ((if_neg c123).trans (if_neg c131)) hJ1
        · refine V_bipush (v := -9) K.1 dX9_orders_134 (by decide) ?_
          refine V_goto (tgt := 145) K.1 dX9_orders_136 (by decide) ?_
          exact V_top ((if_neg c123).trans (if_pos c131)) hJ1
      · refine V_iload_n 3 K.1 dX9_orders_126 rfl rfl ?_
        refine V_goto (tgt := 145) K.1 dX9_orders_127 (by decide) ?_
        exact V_top (if_pos c123) hJ1
    exact V_iret K dX9_orders_145 (k3 c45)
  · refine V_aload_n 0 K.1 dX9_orders_48 rfl rfl ?_
    refine V_callV (d' := d - 1) (As := []) K.1 dX9_orders_49 cw_X9_205 rfl rfl rfl (by omega) rfl (by simp [Value.category]) (m_X9_layHall K.1.wf (by omega)) (go_V ?_)
    refine V_aload_n 0 K.1 dX9_orders_52 rfl rfl ?_
    refine V_aload_n 0 K.1 dX9_orders_53 rfl rfl ?_
    refine V_get (v := .ref (ω.2.2.1 54)) K.1 dX9_orders_54 rfl rfl fw_X9_65 rfl rfl ?_
    refine V_aload_n 0 K.1 dX9_orders_57 rfl rfl ?_
    refine V_get (v := .int (σ.1 2251)) K.1 dX9_orders_58 rfl rfl fw_X9_130 rfl rfl ?_
    exact V_sub [0, 1, 2, 3] rfl (k4 c45)
set_option maxRecDepth 20000 in
theorem R_X9_orders_64 {ω : WT} {κ : KT} {l : Launch} {d : Nat} {post : Option Value → St → Prop} {σ : St} {x1 x2 x3 : Int32}  (K : Cm ω κ l yX9_orders cX9_orders 6 d (some .int) post)
    (k1 : V ω κ 66 [(0, .ref (ω.2.2.1 35)), (1, .int x1), (2, .int x2), (3, .int x3)] [.int x1, .ref (ω.2.2.1 35)] σ) :
    V ω κ 64 [(0, .ref (ω.2.2.1 35)), (1, .int x1), (2, .int x2), (3, .int x3)] [] σ := by
  refine V_aload_n 0 K.1 dX9_orders_64 rfl rfl ?_
  refine V_iload_n 1 K.1 dX9_orders_65 rfl rfl ?_
  exact k1
set_option maxRecDepth 20000 in
theorem R_X9_orders_69 {ω : WT} {κ : KT} {l : Launch} {d : Nat} {post : Option Value → St → Prop} {σ : St} {x1 x2 x3 s0 : Int32}  (K : Cm ω κ l yX9_orders cX9_orders 6 d (some .int) post)
    (k1 : ¬ (s0 = (1 : Int32)) → V ω κ 113 [(0, .ref (ω.2.2.1 35)), (1, .int x1), (2, .int x2), (3, .int x3)] [.ref (ω.2.2.1 35)] σ)
    (k2 : (s0 = (1 : Int32)) → V ω κ 76 [(0, .ref (ω.2.2.1 35)), (1, .int x1), (2, .int x2), (3, .int x3), (5, .int (0 : Int32))] [] σ) :
    V ω κ 69 [(0, .ref (ω.2.2.1 35)), (1, .int x1), (2, .int x2), (3, .int x3)] [.int s0] σ := by
  refine V_iconst (v := 1) K.1 dX9_orders_69 (by decide) ?_
  refine V_icmp_ne (tgt := 112) K.1 dX9_orders_70 (by decide) (fun c70 => ?_) (fun c70 => ?_)
  · refine V_aload_n 0 K.1 dX9_orders_112 rfl rfl ?_
    exact (k1 c70)
  · refine V_iconst (v := 0) K.1 dX9_orders_73 (by decide) ?_
    refine V_istore (L' := [(0, .ref (ω.2.2.1 35)), (1, .int x1), (2, .int x2), (3, .int x3), (5, .int (0 : Int32))]) K.1 dX9_orders_74 (by decide) rfl ?_
    exact (k2 c70)
set_option maxRecDepth 20000 in
theorem R_X9_orders_76 {ω : WT} {κ : KT} {l : Launch} {d : Nat} {post : Option Value → St → Prop} {σ : St} {x1 x2 x3 x5 : Int32}  (K : Cm ω κ l yX9_orders cX9_orders 6 d (some .int) post)
    (k1 : ((σ.1 2251) ≤ x5) → V ω κ 113 [(0, .ref (ω.2.2.1 35)), (1, .int x1), (2, .int x2), (3, .int (x3 + 1))] [.ref (ω.2.2.1 35)] σ)
    (k2 : ¬ ((σ.1 2251) ≤ x5) → ¬ (x3 = 0) → V ω κ 113 [(0, .ref (ω.2.2.1 35)), (1, .int x1), (2, .int x2), (3, .int (x3 + 1))] [.ref (ω.2.2.1 35)] σ)
    (b3 : ¬ ((σ.1 2251) ≤ x5) → (x3 = 0) → vp_in x5 6)
    (b4 : ¬ ((σ.1 2251) ≤ x5) → (x3 = 0) → vp_in x5 6)
    (k5 : ¬ ((σ.1 2251) ≤ x5) → (x3 = 0) → V ω κ 76 [(0, .ref (ω.2.2.1 35)), (1, .int x1), (2, .int x2), (3, .int x3), (5, .int (x5 + 1))] [] (pA σ 55 (x5).toNatClampNeg (σ.2.1 54 (x5).toNatClampNeg))) :
    V ω κ 76 [(0, .ref (ω.2.2.1 35)), (1, .int x1), (2, .int x2), (3, .int x3), (5, .int x5)] [] σ := by
  refine V_iload 4 K.1 dX9_orders_76 rfl ?_
  refine V_aload_n 0 K.1 dX9_orders_78 rfl rfl ?_
  refine V_get (v := .int (σ.1 2251)) K.1 dX9_orders_79 rfl rfl fw_X9_130 rfl rfl ?_
  refine V_icmp_ge (tgt := 109) K.1 dX9_orders_82 (by decide) (fun c82 => ?_) (fun c82 => ?_)
  · refine V_iinc (v := (x3 + 1)) (L' := [(0, .ref (ω.2.2.1 35)), (1, .int x1), (2, .int x2), (3, .int (x3 + 1)), (5, .int x5)]) 3 K.1 dX9_orders_109 rfl rfl (by decide) rfl ?_
    refine V_aload_n 0 K.1 dX9_orders_112 rfl rfl ?_
    exact V_sub [0, 1, 2, 3] rfl (k1 c82)
  · refine V_iload_n 3 K.1 dX9_orders_85 rfl rfl ?_
    refine V_if_ne (tgt := 109) K.1 dX9_orders_86 (by decide) (fun c86 => ?_) (fun c86 => ?_)
    · refine V_iinc (v := (x3 + 1)) (L' := [(0, .ref (ω.2.2.1 35)), (1, .int x1), (2, .int x2), (3, .int (x3 + 1)), (5, .int x5)]) 3 K.1 dX9_orders_109 rfl rfl (by decide) rfl ?_
      refine V_aload_n 0 K.1 dX9_orders_112 rfl rfl ?_
      exact V_sub [0, 1, 2, 3] rfl (k2 c82 c86)
    · refine V_aload_n 0 K.1 dX9_orders_89 rfl rfl ?_
      refine V_get (v := .ref (ω.2.2.1 55)) K.1 dX9_orders_90 rfl rfl fw_X9_68 rfl rfl ?_
      refine V_iload 4 K.1 dX9_orders_93 rfl ?_
      refine V_aload_n 0 K.1 dX9_orders_95 rfl rfl ?_
      refine V_get (v := .ref (ω.2.2.1 54)) K.1 dX9_orders_96 rfl rfl fw_X9_65 rfl rfl ?_
      refine V_iload 4 K.1 dX9_orders_99 rfl ?_
      refine V_iaload (v := (σ.2.1 54 (x5).toNatClampNeg)) K.1 dX9_orders_101 rfl (b3 c82 c86) rfl ?_
      refine V_iastore K.1 dX9_orders_102 rfl (b4 c82 c86) ?_
      refine V_iinc (v := (x5 + 1)) (L' := [(0, .ref (ω.2.2.1 35)), (1, .int x1), (2, .int x2), (3, .int x3), (5, .int (x5 + 1))]) 4 K.1 dX9_orders_103 rfl rfl (by decide) rfl ?_
      refine V_goto (tgt := 76) K.1 dX9_orders_106 (by decide) ?_
      exact (k5 c82 c86)
set_option maxRecDepth 20000 in
theorem R_X9_orders_116 {ω : WT} {κ : KT} {l : Launch} {d : Nat} {post : Option Value → St → Prop} {σ : St} {x1 x2 x3 s0 : Int32}  (K : Cm ω κ l yX9_orders cX9_orders 6 d (some .int) post)
    (k1 : V ω κ 43 [(0, .ref (ω.2.2.1 35)), (1, .int x1), (2, .int x2), (3, .int x3), (4, .int s0)] [] σ) :
    V ω κ 116 [(0, .ref (ω.2.2.1 35)), (1, .int x1), (2, .int x2), (3, .int x3)] [.int s0] σ := by
  refine V_istore (L' := [(0, .ref (ω.2.2.1 35)), (1, .int x1), (2, .int x2), (3, .int x3), (4, .int s0)]) K.1 dX9_orders_116 (by decide) rfl ?_
  refine V_goto (tgt := 43) K.1 dX9_orders_118 (by decide) ?_
  exact k1
set_option maxRecDepth 20000 in
theorem C_X9_orders_10 {ω : WT} {κ : KT} {l : Launch} {d : Nat} {post : Option Value → St → Prop} {σ : St} {x1 x2 s1 : Int32}  {post' : Option Value → St → Prop} (K : Cm ω κ l yX9_orders cX9_orders 6 d (some .int) post) (hdp : 1 ≤ d) (hM : Sp ω l yX9_placeOf cX9_placeOf 3 (some .int) (d - 1) [.ref (ω.2.2.1 35), .int s1] σ post')
    (kk : ∀ (v : Option Value) (σ' : St), post' v σ' → V ω κ 13 [(0, .ref (ω.2.2.1 35)), (1, .int x1), (2, .int x2)] (v.toList ++ []) σ') : V ω κ 10 [(0, .ref (ω.2.2.1 35)), (1, .int x1), (2, .int x2)] [.int s1, .ref (ω.2.2.1 35)] σ := by
  exact V_callV (d' := d - 1) (As := [.int s1]) (rest := []) K.1 dX9_orders_10 cw_X9_215 rfl rfl rfl (by omega) rfl (by simp [Value.category]) hM (fun v σ' h => kk v σ' h)
set_option maxRecDepth 20000 in
theorem C_X9_orders_35 {ω : WT} {κ : KT} {l : Launch} {d : Nat} {post : Option Value → St → Prop} {σ : St} {x1 x2 : Int32}  {post' : Option Value → St → Prop} (K : Cm ω κ l yX9_orders cX9_orders 6 d (some .int) post) (hdp : 1 ≤ d) (hM : Sp ω l yX9_firstRow cX9_firstRow 3 none (d - 1) [.ref (ω.2.2.1 35)] σ post')
    (kk : ∀ (v : Option Value) (σ' : St), post' v σ' → V ω κ 38 [(0, .ref (ω.2.2.1 35)), (1, .int x1), (2, .int x2)] (v.toList ++ []) σ') : V ω κ 35 [(0, .ref (ω.2.2.1 35)), (1, .int x1), (2, .int x2)] [.ref (ω.2.2.1 35)] σ := by
  exact V_callV (d' := d - 1) (As := []) (rest := []) K.1 dX9_orders_35 cw_X9_252 rfl rfl rfl (by omega) rfl (by simp [Value.category]) hM (fun v σ' h => kk v σ' h)
set_option maxRecDepth 20000 in
theorem C_X9_orders_61 {ω : WT} {κ : KT} {l : Launch} {d : Nat} {post : Option Value → St → Prop} {σ : St} {x1 x2 x3 s2 : Int32}  {post' : Option Value → St → Prop} (K : Cm ω κ l yX9_orders cX9_orders 6 d (some .int) post) (hdp : 1 ≤ d) (hM : Sp ω l yX9_goRun cX9_goRun 4 none (d - 1) [.ref (ω.2.2.1 35), .ref (ω.2.2.1 54), .int s2] σ post')
    (kk : ∀ (v : Option Value) (σ' : St), post' v σ' → V ω κ 64 [(0, .ref (ω.2.2.1 35)), (1, .int x1), (2, .int x2), (3, .int x3)] (v.toList ++ []) σ') : V ω κ 61 [(0, .ref (ω.2.2.1 35)), (1, .int x1), (2, .int x2), (3, .int x3)] [.int s2, .ref (ω.2.2.1 54), .ref (ω.2.2.1 35)] σ := by
  exact V_callV (d' := d - 1) (As := [.ref (ω.2.2.1 54), .int s2]) (rest := []) K.1 dX9_orders_61 cw_X9_208 rfl rfl rfl (by omega) rfl (by simp [Value.category]) hM (fun v σ' h => kk v σ' h)
set_option maxRecDepth 20000 in
theorem C_X9_orders_66 {ω : WT} {κ : KT} {l : Launch} {d : Nat} {post : Option Value → St → Prop} {σ : St} {x1 x2 x3 s1 : Int32}  {post' : Option Value → St → Prop} (K : Cm ω κ l yX9_orders cX9_orders 6 d (some .int) post) (hdp : 1 ≤ d) (hM : Sp ω l yX9_outcomeInOrder cX9_outcomeInOrder 4 (some .int) (d - 1) [.ref (ω.2.2.1 35), .int s1] σ post')
    (kk : ∀ (v : Option Value) (σ' : St), post' v σ' → V ω κ 69 [(0, .ref (ω.2.2.1 35)), (1, .int x1), (2, .int x2), (3, .int x3)] (v.toList ++ []) σ') : V ω κ 66 [(0, .ref (ω.2.2.1 35)), (1, .int x1), (2, .int x2), (3, .int x3)] [.int s1, .ref (ω.2.2.1 35)] σ := by
  exact V_callV (d' := d - 1) (As := [.int s1]) (rest := []) K.1 dX9_orders_66 cw_X9_255 rfl rfl rfl (by omega) rfl (by simp [Value.category]) hM (fun v σ' h => kk v σ' h)
set_option maxRecDepth 20000 in
theorem C_X9_orders_113 {ω : WT} {κ : KT} {l : Launch} {d : Nat} {post : Option Value → St → Prop} {σ : St} {x1 x2 x3 : Int32}  {post' : Option Value → St → Prop} (K : Cm ω κ l yX9_orders cX9_orders 6 d (some .int) post) (hdp : 1 ≤ d) (hM : Sp ω l yX9_nextRow cX9_nextRow 5 (some .boolean) (d - 1) [.ref (ω.2.2.1 35)] σ post')
    (kk : ∀ (v : Option Value) (σ' : St), post' v σ' → V ω κ 116 [(0, .ref (ω.2.2.1 35)), (1, .int x1), (2, .int x2), (3, .int x3)] (v.toList ++ []) σ') : V ω κ 113 [(0, .ref (ω.2.2.1 35)), (1, .int x1), (2, .int x2), (3, .int x3)] [.ref (ω.2.2.1 35)] σ := by
  exact V_callV (d' := d - 1) (As := []) (rest := []) K.1 dX9_orders_113 cw_X9_258 rfl rfl rfl (by omega) rfl (by simp [Value.category]) hM (fun v σ' h => kk v σ' h)
set_option maxRecDepth 20000 in
theorem R_X9_safe_0 {ω : WT} {κ : KT} {l : Launch} {d : Nat} {post : Option Value → St → Prop} {σ : St}  (K : Cm ω κ l yX9_safe cX9_safe 4 d (some .int) post) (hdp : 1 ≤ d)
    (k1 : ¬ ((if ((σ.1 2245) ≤ 0) then (0 : Int32) else (1 : Int32)) = 0) → V ω κ 15 [(0, .ref (ω.2.2.1 35)), (1, .int (4095 : Int32))] [.ref (ω.2.2.1 35)] σ)
    (k2 : ((if ((σ.1 2245) ≤ 0) then (0 : Int32) else (1 : Int32)) = 0) → post (some (.int (-3 : Int32))) σ) :
    V ω κ 0 [(0, .ref (ω.2.2.1 35))] [] σ := by
  refine V_aload_n 0 K.1 dX9_safe_0 rfl rfl ?_
  refine V_callV (d' := d - 1) (As := []) K.1 dX9_safe_1 cw_X9_146 rfl rfl rfl (by omega) rfl (by simp [Value.category]) (m_X9_isTown K.1.wf (by omega)) (go_I ?_)
  refine V_if_ne (tgt := 10) K.1 dX9_safe_4 (by decide) (fun c4 => ?_) (fun c4 => ?_)
  · refine V_sipush (v := 4095) K.1 dX9_safe_10 (by decide) ?_
    refine V_istore_n (L' := [(0, .ref (ω.2.2.1 35)), (1, .int (4095 : Int32))]) K.1 dX9_safe_13 rfl (by decide) rfl ?_
    refine V_aload_n 0 K.1 dX9_safe_14 rfl rfl ?_
    exact (k1 c4)
  · refine V_bipush (v := -3) K.1 dX9_safe_7 (by decide) ?_
    exact V_iret K dX9_safe_9 (k2 c4)
set_option maxRecDepth 20000 in
theorem R_X9_safe_18 {ω : WT} {κ : KT} {l : Launch} {d : Nat} {post : Option Value → St → Prop} {σ : St} {x1 : Int32}  (K : Cm ω κ l yX9_safe cX9_safe 4 d (some .int) post)
    (k1 : V ω κ 20 [(0, .ref (ω.2.2.1 35)), (1, .int x1), (2, .int (1 : Int32))] [] σ) :
    V ω κ 18 [(0, .ref (ω.2.2.1 35)), (1, .int x1)] [] σ := by
  refine V_iconst (v := 1) K.1 dX9_safe_18 (by decide) ?_
  refine V_istore_n (L' := [(0, .ref (ω.2.2.1 35)), (1, .int x1), (2, .int (1 : Int32))]) K.1 dX9_safe_19 rfl (by decide) rfl ?_
  exact k1
set_option maxRecDepth 20000 in
theorem R_X9_safe_20 {ω : WT} {κ : KT} {l : Launch} {d : Nat} {post : Option Value → St → Prop} {σ : St} {x1 x2 : Int32}  (K : Cm ω κ l yX9_safe cX9_safe 4 d (some .int) post)
    (k1 : (x2 = 0) → post (some (.int x1)) σ)
    (k2 : ¬ (x2 = 0) → (x1 = 0) → post (some (.int x1)) σ)
    (k3 : ¬ (x2 = 0) → ¬ (x1 = 0) → V ω κ 30 [(0, .ref (ω.2.2.1 35)), (1, .int x1), (3, .int (0 : Int32))] [] σ) :
    V ω κ 20 [(0, .ref (ω.2.2.1 35)), (1, .int x1), (2, .int x2)] [] σ := by
  refine V_iload_n 2 K.1 dX9_safe_20 rfl rfl ?_
  refine V_if_eq (tgt := 106) K.1 dX9_safe_21 (by decide) (fun c21 => ?_) (fun c21 => ?_)
  · refine V_iload_n 1 K.1 dX9_safe_106 rfl rfl ?_
    exact V_iret K dX9_safe_107 (k1 c21)
  · refine V_iload_n 1 K.1 dX9_safe_24 rfl rfl ?_
    refine V_if_eq (tgt := 106) K.1 dX9_safe_25 (by decide) (fun c25 => ?_) (fun c25 => ?_)
    · refine V_iload_n 1 K.1 dX9_safe_106 rfl rfl ?_
      exact V_iret K dX9_safe_107 (k2 c21 c25)
    · refine V_iconst (v := 0) K.1 dX9_safe_28 (by decide) ?_
      refine V_istore_n (L' := [(0, .ref (ω.2.2.1 35)), (1, .int x1), (2, .int x2), (3, .int (0 : Int32))]) K.1 dX9_safe_29 rfl (by decide) rfl ?_
      exact V_sub [0, 1, 3] rfl (k3 c21 c25)
set_option maxRecDepth 20000 in
theorem R_X9_safe_30 {ω : WT} {κ : KT} {l : Launch} {d : Nat} {post : Option Value → St → Prop} {σ : St} {x1 x3 : Int32}  (K : Cm ω κ l yX9_safe cX9_safe 4 d (some .int) post) (hdp : 2 ≤ d)
    (k1 : ((12 : Int32) ≤ x3) → V ω κ 99 [(0, .ref (ω.2.2.1 35)), (1, .int x1)] [.ref (ω.2.2.1 35)] σ)
    (k2 : ¬ ((12 : Int32) ≤ x3) → ¬ (((x1 >>> (x3 &&& 31)) &&& (1 : Int32)) = (1 : Int32)) → V ω κ 30 [(0, .ref (ω.2.2.1 35)), (1, .int x1), (3, .int (x3 + 1))] [] σ)
    (k3 : ¬ ((12 : Int32) ≤ x3) → (((x1 >>> (x3 &&& 31)) &&& (1 : Int32)) = (1 : Int32)) → V ω κ 72 [(0, .ref (ω.2.2.1 35)), (1, .int x1), (3, .int x3)] [.int (σ.1 2251), .ref (ω.2.2.1 54), .ref (ω.2.2.1 35)] (pS (pS (pS (pS (pS (pS (pS σ 2258 (((1 : Int32) <<< ((σ.1 2245) &&& 31)) - (1 : Int32))) 2259 (0 : Int32)) 2260 ((σ.1 2245) - (1 : Int32))) 2261 (σ.1 2249)) 2262 (σ.1 2250)) 2261 (x3 / (3 : Int32))) 2262 (x3 - x3 / (3 : Int32) * (3 : Int32)))) :
    V ω κ 30 [(0, .ref (ω.2.2.1 35)), (1, .int x1), (3, .int x3)] [] σ := by
  refine V_iload_n 2 K.1 dX9_safe_30 rfl rfl ?_
  refine V_bipush (v := 12) K.1 dX9_safe_31 (by decide) ?_
  refine V_icmp_ge (tgt := 98) K.1 dX9_safe_33 (by decide) (fun c33 => ?_) (fun c33 => ?_)
  · refine V_aload_n 0 K.1 dX9_safe_98 rfl rfl ?_
    exact V_sub [0, 1] rfl (k1 c33)
  · refine V_iload_n 1 K.1 dX9_safe_36 rfl rfl ?_
    refine V_iload_n 2 K.1 dX9_safe_37 rfl rfl ?_
    refine V_ishr K.1 dX9_safe_38 ?_
    refine V_iconst (v := 1) K.1 dX9_safe_39 (by decide) ?_
    refine V_iand K.1 dX9_safe_40 ?_
    refine V_iconst (v := 1) K.1 dX9_safe_41 (by decide) ?_
    refine V_icmp_ne (tgt := 92) K.1 dX9_safe_42 (by decide) (fun c42 => ?_) (fun c42 => ?_)
    · refine V_iinc (v := (x3 + 1)) (L' := [(0, .ref (ω.2.2.1 35)), (1, .int x1), (3, .int (x3 + 1))]) 2 K.1 dX9_safe_92 rfl rfl (by decide) rfl ?_
      refine V_goto (tgt := 30) K.1 dX9_safe_95 (by decide) ?_
      exact (k2 c33 c42)
    · refine V_aload_n 0 K.1 dX9_safe_45 rfl rfl ?_
      refine V_callV (d' := d - 1) (As := []) K.1 dX9_safe_46 cw_X9_205 rfl rfl rfl (by omega) rfl (by simp [Value.category]) (m_X9_layHall K.1.wf (by omega)) (go_V ?_)
      refine V_aload_n 0 K.1 dX9_safe_49 rfl rfl ?_
      refine V_iload_n 2 K.1 dX9_safe_50 rfl rfl ?_
      refine V_iconst (v := 3) K.1 dX9_safe_51 (by decide) ?_
      refine V_idiv K.1 dX9_safe_52 (by decide) ?_
      refine V_putI (key := 2261) K.1 dX9_safe_53 rfl rfl fw_X9_164 pw_X9_21 rfl rfl rfl rfl ?_
      refine V_aload_n 0 K.1 dX9_safe_56 rfl rfl ?_
      refine V_iload_n 2 K.1 dX9_safe_57 rfl rfl ?_
      refine V_iconst (v := 3) K.1 dX9_safe_58 (by decide) ?_
      refine V_irem K.1 dX9_safe_59 (by decide) ?_
      refine V_putI (key := 2262) K.1 dX9_safe_60 rfl rfl fw_X9_167 pw_X9_22 rfl rfl rfl rfl ?_
      refine V_aload_n 0 K.1 dX9_safe_63 rfl rfl ?_
      refine V_aload_n 0 K.1 dX9_safe_64 rfl rfl ?_
      refine V_get (v := .ref (ω.2.2.1 54)) K.1 dX9_safe_65 rfl rfl fw_X9_65 rfl rfl ?_
      refine V_aload_n 0 K.1 dX9_safe_68 rfl rfl ?_
      refine V_get (v := .int (σ.1 2251)) K.1 dX9_safe_69 rfl rfl fw_X9_130 rfl rfl ?_
      exact (k3 c33 c42)
set_option maxRecDepth 20000 in
theorem R_X9_safe_75 {ω : WT} {κ : KT} {l : Launch} {d : Nat} {post : Option Value → St → Prop} {σ : St} {x1 x3 : Int32}  (K : Cm ω κ l yX9_safe cX9_safe 4 d (some .int) post)
    (k1 : V ω κ 77 [(0, .ref (ω.2.2.1 35)), (3, .int x3)] [.ref (ω.2.2.1 35), .int x1] σ) :
    V ω κ 75 [(0, .ref (ω.2.2.1 35)), (1, .int x1), (3, .int x3)] [] σ := by
  refine V_iload_n 1 K.1 dX9_safe_75 rfl rfl ?_
  refine V_aload_n 0 K.1 dX9_safe_76 rfl rfl ?_
  exact V_sub [0, 2] rfl k1
set_option maxRecDepth 20000 in
theorem R_X9_safe_80 {ω : WT} {κ : KT} {l : Launch} {d : Nat} {post : Option Value → St → Prop} {σ : St} {x3 s0 s1 : Int32}  (K : Cm ω κ l yX9_safe cX9_safe 4 d (some .int) post)
    (k2 : V ω κ 30 [(0, .ref (ω.2.2.1 35)), (1, .int (s0 - (if (s1 = 0) then (0 : Int32) else ((1 : Int32) <<< (x3 &&& 31))))), (3, .int (x3 + 1))] [] σ) :
    V ω κ 80 [(0, .ref (ω.2.2.1 35)), (3, .int x3)] [.int s1, .int s0] σ := by
  refine V_join (J := 90) (S := [.int s0]) (v := .int (if (s1 = 0) then (0 : Int32) else ((1 : Int32) <<< (x3 &&& 31)))) (fun hJ1 => ?_) ?_
  · refine V_if_eq (tgt := 89) K.1 dX9_safe_80 (by decide) (fun c80 => ?_) (fun c80 => ?_)
    · refine V_iconst (v := 0) K.1 dX9_safe_89 (by decide) ?_
      exact V_top (if_pos c80) hJ1
    · refine V_iconst (v := 1) K.1 dX9_safe_83 (by decide) ?_
      refine V_iload_n 1 K.1 dX9_safe_84 rfl rfl ?_
      refine V_ishl K.1 dX9_safe_85 ?_
      refine V_goto (tgt := 90) K.1 dX9_safe_86 (by decide) ?_
      exact V_top (if_neg c80) hJ1
  refine V_isub K.1 dX9_safe_90 ?_
  refine V_istore_n (L' := [(0, .ref (ω.2.2.1 35)), (1, .int (s0 - (if (s1 = 0) then (0 : Int32) else ((1 : Int32) <<< (x3 &&& 31))))), (3, .int x3)]) K.1 dX9_safe_91 rfl (by decide) rfl ?_
  refine V_iinc (v := (x3 + 1)) (L' := [(0, .ref (ω.2.2.1 35)), (1, .int (s0 - (if (s1 = 0) then (0 : Int32) else ((1 : Int32) <<< (x3 &&& 31))))), (3, .int (x3 + 1))]) 2 K.1 dX9_safe_92 rfl rfl (by decide) rfl ?_
  refine V_goto (tgt := 30) K.1 dX9_safe_95 (by decide) ?_
  exact k2
set_option maxRecDepth 20000 in
theorem R_X9_safe_102 {ω : WT} {κ : KT} {l : Launch} {d : Nat} {post : Option Value → St → Prop} {σ : St} {x1 s0 : Int32}  (K : Cm ω κ l yX9_safe cX9_safe 4 d (some .int) post)
    (k1 : V ω κ 20 [(0, .ref (ω.2.2.1 35)), (1, .int x1), (2, .int s0)] [] σ) :
    V ω κ 102 [(0, .ref (ω.2.2.1 35)), (1, .int x1)] [.int s0] σ := by
  refine V_istore_n (L' := [(0, .ref (ω.2.2.1 35)), (1, .int x1), (2, .int s0)]) K.1 dX9_safe_102 rfl (by decide) rfl ?_
  refine V_goto (tgt := 20) K.1 dX9_safe_103 (by decide) ?_
  exact k1
set_option maxRecDepth 20000 in
theorem C_X9_safe_15 {ω : WT} {κ : KT} {l : Launch} {d : Nat} {post : Option Value → St → Prop} {σ : St} {x1 : Int32}  {post' : Option Value → St → Prop} (K : Cm ω κ l yX9_safe cX9_safe 4 d (some .int) post) (hdp : 1 ≤ d) (hM : Sp ω l yX9_firstRow cX9_firstRow 3 none (d - 1) [.ref (ω.2.2.1 35)] σ post')
    (kk : ∀ (v : Option Value) (σ' : St), post' v σ' → V ω κ 18 [(0, .ref (ω.2.2.1 35)), (1, .int x1)] (v.toList ++ []) σ') : V ω κ 15 [(0, .ref (ω.2.2.1 35)), (1, .int x1)] [.ref (ω.2.2.1 35)] σ := by
  exact V_callV (d' := d - 1) (As := []) (rest := []) K.1 dX9_safe_15 cw_X9_252 rfl rfl rfl (by omega) rfl (by simp [Value.category]) hM (fun v σ' h => kk v σ' h)
set_option maxRecDepth 20000 in
theorem C_X9_safe_72 {ω : WT} {κ : KT} {l : Launch} {d : Nat} {post : Option Value → St → Prop} {σ : St} {x1 x3 s2 : Int32}  {post' : Option Value → St → Prop} (K : Cm ω κ l yX9_safe cX9_safe 4 d (some .int) post) (hdp : 1 ≤ d) (hM : Sp ω l yX9_goRun cX9_goRun 4 none (d - 1) [.ref (ω.2.2.1 35), .ref (ω.2.2.1 54), .int s2] σ post')
    (kk : ∀ (v : Option Value) (σ' : St), post' v σ' → V ω κ 75 [(0, .ref (ω.2.2.1 35)), (1, .int x1), (3, .int x3)] (v.toList ++ []) σ') : V ω κ 72 [(0, .ref (ω.2.2.1 35)), (1, .int x1), (3, .int x3)] [.int s2, .ref (ω.2.2.1 54), .ref (ω.2.2.1 35)] σ := by
  exact V_callV (d' := d - 1) (As := [.ref (ω.2.2.1 54), .int s2]) (rest := []) K.1 dX9_safe_72 cw_X9_208 rfl rfl rfl (by omega) rfl (by simp [Value.category]) hM (fun v σ' h => kk v σ' h)
set_option maxRecDepth 20000 in
theorem C_X9_safe_77 {ω : WT} {κ : KT} {l : Launch} {d : Nat} {post : Option Value → St → Prop} {σ : St} {x3 s0 : Int32}  {post' : Option Value → St → Prop} (K : Cm ω κ l yX9_safe cX9_safe 4 d (some .int) post) (hdp : 1 ≤ d) (hM : Sp ω l yX9_isOnceShut cX9_isOnceShut 3 (some .boolean) (d - 1) [.ref (ω.2.2.1 35)] σ post')
    (kk : ∀ (v : Option Value) (σ' : St), post' v σ' → V ω κ 80 [(0, .ref (ω.2.2.1 35)), (3, .int x3)] (v.toList ++ [.int s0]) σ') : V ω κ 77 [(0, .ref (ω.2.2.1 35)), (3, .int x3)] [.ref (ω.2.2.1 35), .int s0] σ := by
  exact V_callV (d' := d - 1) (As := []) (rest := [.int s0]) K.1 dX9_safe_77 cw_X9_288 rfl rfl rfl (by omega) rfl (by simp [Value.category]) hM (fun v σ' h => kk v σ' h)
set_option maxRecDepth 20000 in
theorem C_X9_safe_99 {ω : WT} {κ : KT} {l : Launch} {d : Nat} {post : Option Value → St → Prop} {σ : St} {x1 : Int32}  {post' : Option Value → St → Prop} (K : Cm ω κ l yX9_safe cX9_safe 4 d (some .int) post) (hdp : 1 ≤ d) (hM : Sp ω l yX9_nextRow cX9_nextRow 5 (some .boolean) (d - 1) [.ref (ω.2.2.1 35)] σ post')
    (kk : ∀ (v : Option Value) (σ' : St), post' v σ' → V ω κ 102 [(0, .ref (ω.2.2.1 35)), (1, .int x1)] (v.toList ++ []) σ') : V ω κ 99 [(0, .ref (ω.2.2.1 35)), (1, .int x1)] [.ref (ω.2.2.1 35)] σ := by
  exact V_callV (d' := d - 1) (As := []) (rest := []) K.1 dX9_safe_99 cw_X9_258 rfl rfl rfl (by omega) rfl (by simp [Value.category]) hM (fun v σ' h => kk v σ' h)
