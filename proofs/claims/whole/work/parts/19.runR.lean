set_option maxRecDepth 20000 in
theorem R_X0_keepOutcome_0 {ω : WT} {κ : KT} {l : Launch} {d : Nat} {post : Option Value → St → Prop} {σ : St}  (K : Cm ω κ l yX0_keepOutcome cX0_keepOutcome 1 d none post) (hdp : 2 ≤ d)
    (q1 : ¬ (0 : Int32) < 0)
    (q2 : ¬ (0 : Int32) < 0)
    (q3 : ¬ (6 : Int32) < 0)
    (q4 : ((0 : Int32)).toNatClampNeg + ((6 : Int32)).toNatClampNeg ≤ 6)
    (q5 : ((0 : Int32)).toNatClampNeg + ((6 : Int32)).toNatClampNeg ≤ 6)
    (k6 : post none (pF σ 20 (va_cpy (σ.2.1 18) (σ.2.1 20) ((0 : Int32)).toNatClampNeg ((0 : Int32)).toNatClampNeg ((6 : Int32)).toNatClampNeg))) :
    V ω κ 0 [(0, .ref (ω.2.2.1 15))] [] σ := by
  refine V_aload_n 0 K.1 dX0_keepOutcome_0 rfl rfl ?_
  refine V_get (v := .ref (ω.2.2.1 18)) K.1 dX0_keepOutcome_1 rfl rfl fw_X0_18 rfl rfl ?_
  refine V_iconst (v := 0) K.1 dX0_keepOutcome_4 (by decide) ?_
  refine V_aload_n 0 K.1 dX0_keepOutcome_5 rfl rfl ?_
  refine V_get (v := .ref (ω.2.2.1 20)) K.1 dX0_keepOutcome_6 rfl rfl fw_X0_24 rfl rfl ?_
  refine V_iconst (v := 0) K.1 dX0_keepOutcome_9 (by decide) ?_
  refine V_bipush (v := 6) K.1 dX0_keepOutcome_10 (by decide) ?_
  refine V_copyI K.1 dX0_keepOutcome_12 cp_X0_63 rfl rfl q1 q2 q3 q4 q5 (by omega) (by decide) ?_
  exact V_vret K dX0_keepOutcome_15 k6
theorem m_X0_keepOutcome {ω : WT} {l : Launch} {d : Nat} {σ : St}  (hWf : Wf ω) (hd : 2 ≤ d) (q1 : ¬ (0 : Int32) < 0) (q2 : ¬ (0 : Int32) < 0) (q3 : ¬ (6 : Int32) < 0) (q4 : ((0 : Int32)).toNatClampNeg + ((6 : Int32)).toNatClampNeg ≤ 6) (q5 : ((0 : Int32)).toNatClampNeg + ((6 : Int32)).toNatClampNeg ≤ 6) :
    Sp ω l yX0_keepOutcome cX0_keepOutcome 1 none d [.ref (ω.2.2.1 15)] σ (rV (pF σ 20 (va_cpy (σ.2.1 18) (σ.2.1 20) ((0 : Int32)).toNatClampNeg ((0 : Int32)).toNatClampNeg ((6 : Int32)).toNatClampNeg))) :=
  Sp.of (by decide) (Nat.le_of_ble_eq_true rfl) hWf (fun κ K => R_X0_keepOutcome_0  K hd q1 q2 q3 q4 q5 ⟨rfl, rfl⟩)
set_option maxRecDepth 20000 in
theorem R_X0_go_0 {ω : WT} {κ : KT} {l : Launch} {d : Nat} {post : Option Value → St → Prop} {σ : St} {x1 x2 : Int32}  (K : Cm ω κ l yX0_go cX0_go 5 d (some .int) post)
    (k1 : V ω κ 5 [(0, .ref (ω.2.2.1 15)), (2, .int x2), (3, .int x1), (4, .int (0 : Int32))] [] σ) :
    V ω κ 0 [(0, .ref (ω.2.2.1 15)), (1, .int x1), (2, .int x2)] [] σ := by
  refine V_iload_n 1 K.1 dX0_go_0 rfl rfl ?_
  refine V_istore_n (L' := [(0, .ref (ω.2.2.1 15)), (1, .int x1), (2, .int x2), (3, .int x1)]) K.1 dX0_go_1 rfl (by decide) rfl ?_
  refine V_iconst (v := 0) K.1 dX0_go_2 (by decide) ?_
  refine V_istore (L' := [(0, .ref (ω.2.2.1 15)), (1, .int x1), (2, .int x2), (3, .int x1), (4, .int (0 : Int32))]) K.1 dX0_go_3 (by decide) rfl ?_
  exact V_sub [0, 2, 3, 4] rfl k1
set_option maxRecDepth 20000 in
theorem R_X0_go_5 {ω : WT} {κ : KT} {l : Launch} {d : Nat} {post : Option Value → St → Prop} {σ : St} {x2 x3 x4 : Int32}  (K : Cm ω κ l yX0_go cX0_go 5 d (some .int) post) (hdp : 1 ≤ d)
    (k1 : ((σ.1 644) ≤ x4) → post (some (.int x3)) σ)
    (b2 : ¬ ((σ.1 644) ≤ x4) → vp_in x4 6)
    (b3 : ¬ ((σ.1 644) ≤ x4) → vp_in x4 6)
    (b4 : ¬ ((σ.1 644) ≤ x4) → vp_in (σ.2.1 13 (x4).toNatClampNeg) 6)
    (k5 : ¬ ((σ.1 644) ≤ x4) → V ω κ 54 [(0, .ref (ω.2.2.1 15)), (2, .int x2), (4, .int x4)] [.int (0 : Int32), .int ((σ.2.1 12 ((σ.2.1 13 (x4).toNatClampNeg)).toNatClampNeg) ^^^ x2), .int x3, .ref (ω.2.2.1 14)] (pA σ 16 (x4).toNatClampNeg (x3 &&& (255 : Int32)))) :
    V ω κ 5 [(0, .ref (ω.2.2.1 15)), (2, .int x2), (3, .int x3), (4, .int x4)] [] σ := by
  refine V_iload 3 K.1 dX0_go_5 rfl ?_
  refine V_aload_n 0 K.1 dX0_go_7 rfl rfl ?_
  refine V_get (v := .ref (ω.2.2.1 10)) K.1 dX0_go_8 rfl rfl fw_X0_27 rfl rfl ?_
  refine V_get (v := .int (σ.1 644)) K.1 dX0_go_11 rfl rfl fw_X0_35 rfl rfl ?_
  refine V_icmp_ge (tgt := 106) K.1 dX0_go_14 (by decide) (fun c14 => ?_) (fun c14 => ?_)
  · refine V_iload_n 2 K.1 dX0_go_106 rfl rfl ?_
    exact V_iret K dX0_go_107 (k1 c14)
  · refine V_aload_n 0 K.1 dX0_go_17 rfl rfl ?_
    refine V_get (v := .ref (ω.2.2.1 16)) K.1 dX0_go_18 rfl rfl fw_X0_9 rfl rfl ?_
    refine V_iload 3 K.1 dX0_go_21 rfl ?_
    refine V_iload_n 2 K.1 dX0_go_23 rfl rfl ?_
    refine V_callS (d' := d - 1) (As := [.int x3]) K.1 dX0_go_24 cw_X0_41 rfl (by omega) rfl (by simp [Value.category]) (m_X2_sittingAt K.1.wf (by omega)) (go_I ?_)
    refine V_iastore K.1 dX0_go_27 rfl (b2 c14) ?_
    refine V_aload_n 0 K.1 dX0_go_28 rfl rfl ?_
    refine V_get (v := .ref (ω.2.2.1 14)) K.1 dX0_go_29 rfl rfl fw_X0_31 rfl rfl ?_
    refine V_iload_n 2 K.1 dX0_go_32 rfl rfl ?_
    refine V_aload_n 0 K.1 dX0_go_33 rfl rfl ?_
    refine V_get (v := .ref (ω.2.2.1 10)) K.1 dX0_go_34 rfl rfl fw_X0_27 rfl rfl ?_
    refine V_get (v := .ref (ω.2.2.1 12)) K.1 dX0_go_37 rfl rfl fw_X0_47 rfl rfl ?_
    refine V_aload_n 0 K.1 dX0_go_40 rfl rfl ?_
    refine V_get (v := .ref (ω.2.2.1 10)) K.1 dX0_go_41 rfl rfl fw_X0_27 rfl rfl ?_
    refine V_get (v := .ref (ω.2.2.1 13)) K.1 dX0_go_44 rfl rfl fw_X0_50 rfl rfl ?_
    refine V_iload 3 K.1 dX0_go_47 rfl ?_
    refine V_iaload (v := (σ.2.1 13 (x4).toNatClampNeg)) K.1 dX0_go_49 rfl (b3 c14) rfl ?_
    refine V_iaload (v := (σ.2.1 12 ((σ.2.1 13 (x4).toNatClampNeg)).toNatClampNeg)) K.1 dX0_go_50 rfl (b4 c14) rfl ?_
    refine V_iload_n 1 K.1 dX0_go_51 rfl rfl ?_
    refine V_ixor K.1 dX0_go_52 ?_
    refine V_iconst (v := 0) K.1 dX0_go_53 (by decide) ?_
    exact V_sub [0, 1, 3] rfl (k5 c14)
set_option maxRecDepth 20000 in
theorem R_X0_go_57 {ω : WT} {κ : KT} {l : Launch} {d : Nat} {post : Option Value → St → Prop} {σ : St} {x2 x4 s0 : Int32}  (K : Cm ω κ l yX0_go cX0_go 5 d (some .int) post)
    (b1 : vp_in x4 6)
    (b2 : vp_in x4 6)
    (b3 : vp_in x4 6)
    (k4 : V ω κ 5 [(0, .ref (ω.2.2.1 15)), (2, .int x2), (3, .int s0), (4, .int (x4 + 1))] [] (pA (pA (pA σ 17 (x4).toNatClampNeg (σ.1 899)) 18 (x4).toNatClampNeg (σ.1 900)) 19 (x4).toNatClampNeg (σ.1 901))) :
    V ω κ 57 [(0, .ref (ω.2.2.1 15)), (2, .int x2), (4, .int x4)] [.int s0] σ := by
  refine V_istore_n (L' := [(0, .ref (ω.2.2.1 15)), (2, .int x2), (3, .int s0), (4, .int x4)]) K.1 dX0_go_57 rfl (by decide) rfl ?_
  refine V_aload_n 0 K.1 dX0_go_58 rfl rfl ?_
  refine V_get (v := .ref (ω.2.2.1 17)) K.1 dX0_go_59 rfl rfl fw_X0_15 rfl rfl ?_
  refine V_iload 3 K.1 dX0_go_62 rfl ?_
  refine V_aload_n 0 K.1 dX0_go_64 rfl rfl ?_
  refine V_get (v := .ref (ω.2.2.1 14)) K.1 dX0_go_65 rfl rfl fw_X0_31 rfl rfl ?_
  refine V_get (v := .int (σ.1 899)) K.1 dX0_go_68 rfl rfl fw_X0_57 rfl rfl ?_
  refine V_iastore K.1 dX0_go_71 rfl b1 ?_
  refine V_aload_n 0 K.1 dX0_go_72 rfl rfl ?_
  refine V_get (v := .ref (ω.2.2.1 18)) K.1 dX0_go_73 rfl rfl fw_X0_18 rfl rfl ?_
  refine V_iload 3 K.1 dX0_go_76 rfl ?_
  refine V_aload_n 0 K.1 dX0_go_78 rfl rfl ?_
  refine V_get (v := .ref (ω.2.2.1 14)) K.1 dX0_go_79 rfl rfl fw_X0_31 rfl rfl ?_
  refine V_get (v := .int (σ.1 900)) K.1 dX0_go_82 rfl rfl fw_X0_59 rfl rfl ?_
  refine V_iastore K.1 dX0_go_85 rfl b2 ?_
  refine V_aload_n 0 K.1 dX0_go_86 rfl rfl ?_
  refine V_get (v := .ref (ω.2.2.1 19)) K.1 dX0_go_87 rfl rfl fw_X0_21 rfl rfl ?_
  refine V_iload 3 K.1 dX0_go_90 rfl ?_
  refine V_aload_n 0 K.1 dX0_go_92 rfl rfl ?_
  refine V_get (v := .ref (ω.2.2.1 14)) K.1 dX0_go_93 rfl rfl fw_X0_31 rfl rfl ?_
  refine V_get (v := .int (σ.1 901)) K.1 dX0_go_96 rfl rfl fw_X0_61 rfl rfl ?_
  refine V_iastore K.1 dX0_go_99 rfl b3 ?_
  refine V_iinc (v := (x4 + 1)) (L' := [(0, .ref (ω.2.2.1 15)), (2, .int x2), (3, .int s0), (4, .int (x4 + 1))]) 3 K.1 dX0_go_100 rfl rfl (by decide) rfl ?_
  refine V_goto (tgt := 5) K.1 dX0_go_103 (by decide) ?_
  exact k4
set_option maxRecDepth 20000 in
theorem C_X0_go_54 {ω : WT} {κ : KT} {l : Launch} {d : Nat} {post : Option Value → St → Prop} {σ : St} {x2 x4 s1 s2 s3 : Int32}  {post' : Option Value → St → Prop} (K : Cm ω κ l yX0_go cX0_go 5 d (some .int) post) (hdp : 1 ≤ d) (hM : Sp ω l yX2_step cX2_step 7 (some .int) (d - 1) [.ref (ω.2.2.1 14), .int s1, .int s2, .int s3] σ post')
    (kk : ∀ (v : Option Value) (σ' : St), post' v σ' → V ω κ 57 [(0, .ref (ω.2.2.1 15)), (2, .int x2), (4, .int x4)] (v.toList ++ []) σ') : V ω κ 54 [(0, .ref (ω.2.2.1 15)), (2, .int x2), (4, .int x4)] [.int s3, .int s2, .int s1, .ref (ω.2.2.1 14)] σ := by
  exact V_callV (d' := d - 1) (As := [.int s1, .int s2, .int s3]) (rest := []) K.1 dX0_go_54 cw_X0_53 rfl rfl rfl (by omega) rfl (by simp [Value.category]) hM (fun v σ' h => kk v σ' h)
set_option maxRecDepth 20000 in
theorem R_X9_goRun_0 {ω : WT} {κ : KT} {l : Launch} {d : Nat} {post : Option Value → St → Prop} {σ : St} {x2 : Int32} {k : Nat} (hk : shpA k = some (0, 6)) (K : Cm ω κ l yX9_goRun cX9_goRun 4 d none post)
    (k1 : V ω κ 2 [(0, .ref (ω.2.2.1 35)), (1, .ref (ω.2.2.1 k)), (2, .int x2), (3, .int (0 : Int32))] [] σ) :
    V ω κ 0 [(0, .ref (ω.2.2.1 35)), (1, .ref (ω.2.2.1 k)), (2, .int x2)] [] σ := by
  refine V_iconst (v := 0) K.1 dX9_goRun_0 (by decide) ?_
  refine V_istore_n (L' := [(0, .ref (ω.2.2.1 35)), (1, .ref (ω.2.2.1 k)), (2, .int x2), (3, .int (0 : Int32))]) K.1 dX9_goRun_1 rfl (by decide) rfl ?_
  exact k1
set_option maxRecDepth 20000 in
theorem R_X9_goRun_2 {ω : WT} {κ : KT} {l : Launch} {d : Nat} {post : Option Value → St → Prop} {σ : St} {x2 x3 : Int32} {k : Nat} (hk : shpA k = some (0, 6)) (K : Cm ω κ l yX9_goRun cX9_goRun 4 d none post)
    (k1 : (x2 ≤ x3) → post none σ)
    (b2 : ¬ (x2 ≤ x3) → vp_in x3 6)
    (k3 : ¬ (x2 ≤ x3) → V ω κ 13 [(0, .ref (ω.2.2.1 35)), (1, .ref (ω.2.2.1 k)), (2, .int x2), (3, .int x3)] [.int (0 : Int32), .int (0 : Int32), .int (σ.2.1 k (x3).toNatClampNeg), .ref (ω.2.2.1 35)] σ) :
    V ω κ 2 [(0, .ref (ω.2.2.1 35)), (1, .ref (ω.2.2.1 k)), (2, .int x2), (3, .int x3)] [] σ := by
  refine V_iload_n 3 K.1 dX9_goRun_2 rfl rfl ?_
  refine V_iload_n 2 K.1 dX9_goRun_3 rfl rfl ?_
  refine V_icmp_ge (tgt := 62) K.1 dX9_goRun_4 (by decide) (fun c4 => ?_) (fun c4 => ?_)
  · exact V_vret K dX9_goRun_62 (k1 c4)
  · refine V_aload_n 0 K.1 dX9_goRun_7 rfl rfl ?_
    refine V_aload_n 1 K.1 dX9_goRun_8 rfl rfl ?_
    refine V_iload_n 3 K.1 dX9_goRun_9 rfl rfl ?_
    refine V_iaload (v := (σ.2.1 k (x3).toNatClampNeg)) K.1 dX9_goRun_10 hk (b2 c4) rfl ?_
    refine V_iconst (v := 0) K.1 dX9_goRun_11 (by decide) ?_
    refine V_iconst (v := 0) K.1 dX9_goRun_12 (by decide) ?_
    exact (k3 c4)
set_option maxRecDepth 20000 in
theorem R_X9_goRun_16 {ω : WT} {κ : KT} {l : Launch} {d : Nat} {post : Option Value → St → Prop} {σ : St} {x2 x3 : Int32} {k : Nat} (hk : shpA k = some (0, 6)) (K : Cm ω κ l yX9_goRun cX9_goRun 4 d none post)
    (b1 : vp_in x3 6)
    (b2 : vp_in x3 6)
    (b3 : vp_in x3 6)
    (b4 : vp_in x3 6)
    (k5 : V ω κ 2 [(0, .ref (ω.2.2.1 35)), (1, .ref (ω.2.2.1 k)), (2, .int x2), (3, .int (x3 + 1))] [] (pA (pA (pA (pA σ 44 (x3).toNatClampNeg (σ.1 2263)) 45 (x3).toNatClampNeg (σ.1 2264)) 46 (x3).toNatClampNeg (σ.1 2265)) 47 (x3).toNatClampNeg (σ.1 2266))) :
    V ω κ 16 [(0, .ref (ω.2.2.1 35)), (1, .ref (ω.2.2.1 k)), (2, .int x2), (3, .int x3)] [] σ := by
  refine V_aload_n 0 K.1 dX9_goRun_16 rfl rfl ?_
  refine V_get (v := .ref (ω.2.2.1 44)) K.1 dX9_goRun_17 rfl rfl fw_X9_34 rfl rfl ?_
  refine V_iload_n 3 K.1 dX9_goRun_20 rfl rfl ?_
  refine V_aload_n 0 K.1 dX9_goRun_21 rfl rfl ?_
  refine V_get (v := .int (σ.1 2263)) K.1 dX9_goRun_22 rfl rfl fw_X9_170 rfl rfl ?_
  refine V_iastore K.1 dX9_goRun_25 rfl b1 ?_
  refine V_aload_n 0 K.1 dX9_goRun_26 rfl rfl ?_
  refine V_get (v := .ref (ω.2.2.1 45)) K.1 dX9_goRun_27 rfl rfl fw_X9_37 rfl rfl ?_
  refine V_iload_n 3 K.1 dX9_goRun_30 rfl rfl ?_
  refine V_aload_n 0 K.1 dX9_goRun_31 rfl rfl ?_
  refine V_get (v := .int (σ.1 2264)) K.1 dX9_goRun_32 rfl rfl fw_X9_173 rfl rfl ?_
  refine V_iastore K.1 dX9_goRun_35 rfl b2 ?_
  refine V_aload_n 0 K.1 dX9_goRun_36 rfl rfl ?_
  refine V_get (v := .ref (ω.2.2.1 46)) K.1 dX9_goRun_37 rfl rfl fw_X9_40 rfl rfl ?_
  refine V_iload_n 3 K.1 dX9_goRun_40 rfl rfl ?_
  refine V_aload_n 0 K.1 dX9_goRun_41 rfl rfl ?_
  refine V_get (v := .int (σ.1 2265)) K.1 dX9_goRun_42 rfl rfl fw_X9_180 rfl rfl ?_
  refine V_iastore K.1 dX9_goRun_45 rfl b3 ?_
  refine V_aload_n 0 K.1 dX9_goRun_46 rfl rfl ?_
  refine V_get (v := .ref (ω.2.2.1 47)) K.1 dX9_goRun_47 rfl rfl fw_X9_43 rfl rfl ?_
  refine V_iload_n 3 K.1 dX9_goRun_50 rfl rfl ?_
  refine V_aload_n 0 K.1 dX9_goRun_51 rfl rfl ?_
  refine V_get (v := .int (σ.1 2266)) K.1 dX9_goRun_52 rfl rfl fw_X9_183 rfl rfl ?_
  refine V_iastore K.1 dX9_goRun_55 rfl b4 ?_
  refine V_iinc (v := (x3 + 1)) (L' := [(0, .ref (ω.2.2.1 35)), (1, .ref (ω.2.2.1 k)), (2, .int x2), (3, .int (x3 + 1))]) 3 K.1 dX9_goRun_56 rfl rfl (by decide) rfl ?_
  refine V_goto (tgt := 2) K.1 dX9_goRun_59 (by decide) ?_
  exact k5
set_option maxRecDepth 20000 in
theorem C_X9_goRun_13 {ω : WT} {κ : KT} {l : Launch} {d : Nat} {post : Option Value → St → Prop} {σ : St} {x2 x3 s1 s2 s3 : Int32} {k : Nat} (hk : shpA k = some (0, 6)) {post' : Option Value → St → Prop} (K : Cm ω κ l yX9_goRun cX9_goRun 4 d none post) (hdp : 1 ≤ d) (hM : Sp ω l yX9_goOn cX9_goOn 4 none (d - 1) [.ref (ω.2.2.1 35), .int s1, .int s2, .int s3] σ post')
    (kk : ∀ (v : Option Value) (σ' : St), post' v σ' → V ω κ 16 [(0, .ref (ω.2.2.1 35)), (1, .ref (ω.2.2.1 k)), (2, .int x2), (3, .int x3)] (v.toList ++ []) σ') : V ω κ 13 [(0, .ref (ω.2.2.1 35)), (1, .ref (ω.2.2.1 k)), (2, .int x2), (3, .int x3)] [.int s3, .int s2, .int s1, .ref (ω.2.2.1 35)] σ := by
  exact V_callV (d' := d - 1) (As := [.int s1, .int s2, .int s3]) (rest := []) K.1 dX9_goRun_13 cw_X9_202 rfl rfl rfl (by omega) rfl (by simp [Value.category]) hM (fun v σ' h => kk v σ' h)
set_option maxRecDepth 20000 in
theorem R_X9_goFirst_0 {ω : WT} {κ : KT} {l : Launch} {d : Nat} {post : Option Value → St → Prop} {σ : St}  (K : Cm ω κ l yX9_goFirst cX9_goFirst 1 d none post) (hdp : 2 ≤ d)
    (k1 : V ω κ 13 [] [.int (σ.1 2251), .ref (ω.2.2.1 41), .ref (ω.2.2.1 35)] (pS (pS (pS (pS (pS σ 2258 (((1 : Int32) <<< ((σ.1 2245) &&& 31)) - (1 : Int32))) 2259 (0 : Int32)) 2260 ((σ.1 2245) - (1 : Int32))) 2261 (σ.1 2249)) 2262 (σ.1 2250))) :
    V ω κ 0 [(0, .ref (ω.2.2.1 35))] [] σ := by
  refine V_aload_n 0 K.1 dX9_goFirst_0 rfl rfl ?_
  refine V_callV (d' := d - 1) (As := []) K.1 dX9_goFirst_1 cw_X9_205 rfl rfl rfl (by omega) rfl (by simp [Value.category]) (m_X9_layHall K.1.wf (by omega)) (go_V ?_)
  refine V_aload_n 0 K.1 dX9_goFirst_4 rfl rfl ?_
  refine V_aload_n 0 K.1 dX9_goFirst_5 rfl rfl ?_
  refine V_get (v := .ref (ω.2.2.1 41)) K.1 dX9_goFirst_6 rfl rfl fw_X9_25 rfl rfl ?_
  refine V_aload_n 0 K.1 dX9_goFirst_9 rfl rfl ?_
  refine V_get (v := .int (σ.1 2251)) K.1 dX9_goFirst_10 rfl rfl fw_X9_130 rfl rfl ?_
  exact V_sub [] rfl k1
set_option maxRecDepth 20000 in
theorem R_X9_goFirst_16 {ω : WT} {κ : KT} {l : Launch} {d : Nat} {post : Option Value → St → Prop} {σ : St}  (K : Cm ω κ l yX9_goFirst cX9_goFirst 1 d none post)
    (k1 : post none σ) :
    V ω κ 16 [] [] σ := by
  exact V_vret K dX9_goFirst_16 k1
set_option maxRecDepth 20000 in
theorem C_X9_goFirst_13 {ω : WT} {κ : KT} {l : Launch} {d : Nat} {post : Option Value → St → Prop} {σ : St} {s2 : Int32}  {post' : Option Value → St → Prop} (K : Cm ω κ l yX9_goFirst cX9_goFirst 1 d none post) (hdp : 1 ≤ d) (hM : Sp ω l yX9_goRun cX9_goRun 4 none (d - 1) [.ref (ω.2.2.1 35), .ref (ω.2.2.1 41), .int s2] σ post')
    (kk : ∀ (v : Option Value) (σ' : St), post' v σ' → V ω κ 16 [] (v.toList ++ []) σ') : V ω κ 13 [] [.int s2, .ref (ω.2.2.1 41), .ref (ω.2.2.1 35)] σ := by
  exact V_callV (d' := d - 1) (As := [.ref (ω.2.2.1 41), .int s2]) (rest := []) K.1 dX9_goFirst_13 cw_X9_208 rfl rfl rfl (by omega) rfl (by simp [Value.category]) hM (fun v σ' h => kk v σ' h)
set_option maxRecDepth 20000 in
theorem R_X8_runOnce_0 {ω : WT} {κ : KT} {l : Launch} {d : Nat} {post : Option Value → St → Prop} {σ : St}  (K : Cm ω κ l yX8_runOnce cX8_runOnce 1 d (some .int) post) (hdp : 2 ≤ d)
    (k1 : V ω κ 19 [] [.int (0 : Int32), .int (((if (((σ.1 640) - (1 : Int32)) < (0 : Int32)) then (0 : Int32) else ((σ.1 640) - (1 : Int32))) * (256 : Int32)) + (((1 : Int32) <<< ((σ.1 640) &&& 31)) - (1 : Int32))), .ref (ω.2.2.1 15)] (pS (pS σ 897 (σ.1 642)) 898 (σ.1 643))) :
    V ω κ 0 [(0, .ref (ω.2.2.1 0))] [] σ := by
  refine V_aload_n 0 K.1 dX8_runOnce_0 rfl rfl ?_
  refine V_get (v := .ref (ω.2.2.1 14)) K.1 dX8_runOnce_1 rfl rfl fw_X8_30 rfl rfl ?_
  refine V_callV (d' := d - 1) (As := []) K.1 dX8_runOnce_4 cw_X8_149 rfl rfl rfl (by omega) rfl (by simp [Value.category]) (m_X2_useOwnRules K.1.wf (by omega)) (go_V ?_)
  refine V_aload_n 0 K.1 dX8_runOnce_7 rfl rfl ?_
  refine V_get (v := .ref (ω.2.2.1 15)) K.1 dX8_runOnce_8 rfl rfl fw_X8_39 rfl rfl ?_
  refine V_aload_n 0 K.1 dX8_runOnce_11 rfl rfl ?_
  refine V_get (v := .ref (ω.2.2.1 14)) K.1 dX8_runOnce_12 rfl rfl fw_X8_30 rfl rfl ?_
  refine V_callV (d' := d - 1) (As := []) K.1 dX8_runOnce_15 cw_X8_185 rfl rfl rfl (by omega) rfl (by simp [Value.category]) (m_X2_opening K.1.wf (by omega)) (go_I ?_)
  refine V_iconst (v := 0) K.1 dX8_runOnce_18 (by decide) ?_
  exact V_sub [] rfl k1
set_option maxRecDepth 20000 in
theorem R_X8_runOnce_22 {ω : WT} {κ : KT} {l : Launch} {d : Nat} {post : Option Value → St → Prop} {σ : St} {s0 : Int32}  (K : Cm ω κ l yX8_runOnce cX8_runOnce 1 d (some .int) post)
    (k1 : post (some (.int s0)) σ) :
    V ω κ 22 [] [.int s0] σ := by
  exact V_iret K dX8_runOnce_22 k1
set_option maxRecDepth 20000 in
theorem C_X8_runOnce_19 {ω : WT} {κ : KT} {l : Launch} {d : Nat} {post : Option Value → St → Prop} {σ : St} {s1 s2 : Int32}  {post' : Option Value → St → Prop} (K : Cm ω κ l yX8_runOnce cX8_runOnce 1 d (some .int) post) (hdp : 1 ≤ d) (hM : Sp ω l yX0_go cX0_go 5 (some .int) (d - 1) [.ref (ω.2.2.1 15), .int s1, .int s2] σ post')
    (kk : ∀ (v : Option Value) (σ' : St), post' v σ' → V ω κ 22 [] (v.toList ++ []) σ') : V ω κ 19 [] [.int s2, .int s1, .ref (ω.2.2.1 15)] σ := by
  exact V_callV (d' := d - 1) (As := [.int s1, .int s2]) (rest := []) K.1 dX8_runOnce_19 cw_X8_188 rfl rfl rfl (by omega) rfl (by simp [Value.category]) hM (fun v σ' h => kk v σ' h)
set_option maxRecDepth 20000 in
theorem R_X7_placeOf_0 {ω : WT} {κ : KT} {l : Launch} {d : Nat} {post : Option Value → St → Prop} {σ : St} {x1 : Int32}  (K : Cm ω κ l yX7_placeOf cX7_placeOf 3 d (some .int) post)
    (k1 : V ω κ 2 [(0, .ref (ω.2.2.1 10)), (1, .int x1), (2, .int (0 : Int32))] [] σ) :
    V ω κ 0 [(0, .ref (ω.2.2.1 10)), (1, .int x1)] [] σ := by
  refine V_iconst (v := 0) K.1 dX7_placeOf_0 (by decide) ?_
  refine V_istore_n (L' := [(0, .ref (ω.2.2.1 10)), (1, .int x1), (2, .int (0 : Int32))]) K.1 dX7_placeOf_1 rfl (by decide) rfl ?_
  exact k1
set_option maxRecDepth 20000 in
theorem R_X7_placeOf_2 {ω : WT} {κ : KT} {l : Launch} {d : Nat} {post : Option Value → St → Prop} {σ : St} {x1 x2 : Int32}  (K : Cm ω κ l yX7_placeOf cX7_placeOf 3 d (some .int) post)
    (k1 : ((σ.1 644) ≤ x2) → post (some (.int (-1 : Int32))) σ)
    (b2 : ¬ ((σ.1 644) ≤ x2) → vp_in x2 6)
    (k3 : ¬ ((σ.1 644) ≤ x2) → ¬ ((σ.2.1 13 (x2).toNatClampNeg) = x1) → V ω κ 2 [(0, .ref (ω.2.2.1 10)), (1, .int x1), (2, .int (x2 + 1))] [] σ)
    (k4 : ¬ ((σ.1 644) ≤ x2) → ((σ.2.1 13 (x2).toNatClampNeg) = x1) → post (some (.int x2)) σ) :
    V ω κ 2 [(0, .ref (ω.2.2.1 10)), (1, .int x1), (2, .int x2)] [] σ := by
  refine V_iload_n 2 K.1 dX7_placeOf_2 rfl rfl ?_
  refine V_aload_n 0 K.1 dX7_placeOf_3 rfl rfl ?_
  refine V_get (v := .int (σ.1 644)) K.1 dX7_placeOf_4 rfl rfl fw_X7_28 rfl rfl ?_
  refine V_icmp_ge (tgt := 28) K.1 dX7_placeOf_7 (by decide) (fun c7 => ?_) (fun c7 => ?_)
  · refine V_iconst (v := -1) K.1 dX7_placeOf_28 (by decide) ?_
    exact V_iret K dX7_placeOf_29 (k1 c7)
  · refine V_aload_n 0 K.1 dX7_placeOf_10 rfl rfl ?_
    refine V_get (v := .ref (ω.2.2.1 13)) K.1 dX7_placeOf_11 rfl rfl fw_X7_18 rfl rfl ?_
    refine V_iload_n 2 K.1 dX7_placeOf_14 rfl rfl ?_
    refine V_iaload (v := (σ.2.1 13 (x2).toNatClampNeg)) K.1 dX7_placeOf_15 rfl (b2 c7) rfl ?_
    refine V_iload_n 1 K.1 dX7_placeOf_16 rfl rfl ?_
    refine V_icmp_ne (tgt := 22) K.1 dX7_placeOf_17 (by decide) (fun c17 => ?_) (fun c17 => ?_)
    · refine V_iinc (v := (x2 + 1)) (L' := [(0, .ref (ω.2.2.1 10)), (1, .int x1), (2, .int (x2 + 1))]) 2 K.1 dX7_placeOf_22 rfl rfl (by decide) rfl ?_
      refine V_goto (tgt := 2) K.1 dX7_placeOf_25 (by decide) ?_
      exact (k3 c7 c17)
    · refine V_iload_n 2 K.1 dX7_placeOf_20 rfl rfl ?_
      exact V_iret K dX7_placeOf_21 (k4 c7 c17)
set_option maxRecDepth 20000 in
theorem R_X9_placeOf_0 {ω : WT} {κ : KT} {l : Launch} {d : Nat} {post : Option Value → St → Prop} {σ : St} {x1 : Int32}  (K : Cm ω κ l yX9_placeOf cX9_placeOf 3 d (some .int) post)
    (k1 : V ω κ 2 [(0, .ref (ω.2.2.1 35)), (1, .int x1), (2, .int (0 : Int32))] [] σ) :
    V ω κ 0 [(0, .ref (ω.2.2.1 35)), (1, .int x1)] [] σ := by
  refine V_iconst (v := 0) K.1 dX9_placeOf_0 (by decide) ?_
  refine V_istore_n (L' := [(0, .ref (ω.2.2.1 35)), (1, .int x1), (2, .int (0 : Int32))]) K.1 dX9_placeOf_1 rfl (by decide) rfl ?_
  exact k1
set_option maxRecDepth 20000 in
theorem R_X9_placeOf_2 {ω : WT} {κ : KT} {l : Launch} {d : Nat} {post : Option Value → St → Prop} {σ : St} {x1 x2 : Int32}  (K : Cm ω κ l yX9_placeOf cX9_placeOf 3 d (some .int) post)
    (k1 : ((σ.1 2251) ≤ x2) → post (some (.int (-9 : Int32))) σ)
    (b2 : ¬ ((σ.1 2251) ≤ x2) → vp_in x2 6)
    (k3 : ¬ ((σ.1 2251) ≤ x2) → ¬ ((σ.2.1 41 (x2).toNatClampNeg) = x1) → V ω κ 2 [(0, .ref (ω.2.2.1 35)), (1, .int x1), (2, .int (x2 + 1))] [] σ)
    (k4 : ¬ ((σ.1 2251) ≤ x2) → ((σ.2.1 41 (x2).toNatClampNeg) = x1) → post (some (.int x2)) σ) :
    V ω κ 2 [(0, .ref (ω.2.2.1 35)), (1, .int x1), (2, .int x2)] [] σ := by
  refine V_iload_n 2 K.1 dX9_placeOf_2 rfl rfl ?_
  refine V_aload_n 0 K.1 dX9_placeOf_3 rfl rfl ?_
  refine V_get (v := .int (σ.1 2251)) K.1 dX9_placeOf_4 rfl rfl fw_X9_130 rfl rfl ?_
  refine V_icmp_ge (tgt := 28) K.1 dX9_placeOf_7 (by decide) (fun c7 => ?_) (fun c7 => ?_)
  · refine V_bipush (v := -9) K.1 dX9_placeOf_28 (by decide) ?_
    exact V_iret K dX9_placeOf_30 (k1 c7)
  · refine V_aload_n 0 K.1 dX9_placeOf_10 rfl rfl ?_
    refine V_get (v := .ref (ω.2.2.1 41)) K.1 dX9_placeOf_11 rfl rfl fw_X9_25 rfl rfl ?_
    refine V_iload_n 2 K.1 dX9_placeOf_14 rfl rfl ?_
    refine V_iaload (v := (σ.2.1 41 (x2).toNatClampNeg)) K.1 dX9_placeOf_15 rfl (b2 c7) rfl ?_
    refine V_iload_n 1 K.1 dX9_placeOf_16 rfl rfl ?_
    refine V_icmp_ne (tgt := 22) K.1 dX9_placeOf_17 (by decide) (fun c17 => ?_) (fun c17 => ?_)
    · refine V_iinc (v := (x2 + 1)) (L' := [(0, .ref (ω.2.2.1 35)), (1, .int x1), (2, .int (x2 + 1))]) 2 K.1 dX9_placeOf_22 rfl rfl (by decide) rfl ?_
      refine V_goto (tgt := 2) K.1 dX9_placeOf_25 (by decide) ?_
      exact (k3 c7 c17)
    · refine V_iload_n 2 K.1 dX9_placeOf_20 rfl rfl ?_
      exact V_iret K dX9_placeOf_21 (k4 c7 c17)
set_option maxRecDepth 20000 in
theorem R_X0_countChanged_0 {ω : WT} {κ : KT} {l : Launch} {d : Nat} {post : Option Value → St → Prop} {σ : St}  (K : Cm ω κ l yX0_countChanged cX0_countChanged 3 d (some .int) post)
    (k1 : V ω κ 4 [(0, .ref (ω.2.2.1 15)), (1, .int (0 : Int32)), (2, .int (0 : Int32))] [] σ) :
    V ω κ 0 [(0, .ref (ω.2.2.1 15))] [] σ := by
  refine V_iconst (v := 0) K.1 dX0_countChanged_0 (by decide) ?_
  refine V_istore_n (L' := [(0, .ref (ω.2.2.1 15)), (1, .int (0 : Int32))]) K.1 dX0_countChanged_1 rfl (by decide) rfl ?_
  refine V_iconst (v := 0) K.1 dX0_countChanged_2 (by decide) ?_
  refine V_istore_n (L' := [(0, .ref (ω.2.2.1 15)), (1, .int (0 : Int32)), (2, .int (0 : Int32))]) K.1 dX0_countChanged_3 rfl (by decide) rfl ?_
  exact k1
set_option maxRecDepth 20000 in
theorem R_X0_countChanged_4 {ω : WT} {κ : KT} {l : Launch} {d : Nat} {post : Option Value → St → Prop} {σ : St} {x1 x2 : Int32}  (K : Cm ω κ l yX0_countChanged cX0_countChanged 3 d (some .int) post)
    (k1 : ((σ.1 644) ≤ x2) → post (some (.int x1)) σ)
    (b2 : ¬ ((σ.1 644) ≤ x2) → vp_in x2 6)
    (b3 : ¬ ((σ.1 644) ≤ x2) → vp_in x2 6)
    (k4 : ¬ ((σ.1 644) ≤ x2) → ((σ.2.1 18 (x2).toNatClampNeg) = (σ.2.1 20 (x2).toNatClampNeg)) → V ω κ 4 [(0, .ref (ω.2.2.1 15)), (1, .int x1), (2, .int (x2 + 1))] [] σ)
    (k5 : ¬ ((σ.1 644) ≤ x2) → ¬ ((σ.2.1 18 (x2).toNatClampNeg) = (σ.2.1 20 (x2).toNatClampNeg)) → V ω κ 4 [(0, .ref (ω.2.2.1 15)), (1, .int (x1 + 1)), (2, .int (x2 + 1))] [] σ) :
    V ω κ 4 [(0, .ref (ω.2.2.1 15)), (1, .int x1), (2, .int x2)] [] σ := by
  refine V_iload_n 2 K.1 dX0_countChanged_4 rfl rfl ?_
  refine V_aload_n 0 K.1 dX0_countChanged_5 rfl rfl ?_
  refine V_get (v := .ref (ω.2.2.1 10)) K.1 dX0_countChanged_6 rfl rfl fw_X0_27 rfl rfl ?_
  refine V_get (v := .int (σ.1 644)) K.1 dX0_countChanged_9 rfl rfl fw_X0_35 rfl rfl ?_
  refine V_icmp_ge (tgt := 39) K.1 dX0_countChanged_12 (by decide) (fun c12 => ?_) (fun c12 => ?_)
  · refine V_iload_n 1 K.1 dX0_countChanged_39 rfl rfl ?_
    exact V_iret K dX0_countChanged_40 (k1 c12)
  · refine V_aload_n 0 K.1 dX0_countChanged_15 rfl rfl ?_
    refine V_get (v := .ref (ω.2.2.1 18)) K.1 dX0_countChanged_16 rfl rfl fw_X0_18 rfl rfl ?_
    refine V_iload_n 2 K.1 dX0_countChanged_19 rfl rfl ?_
    refine V_iaload (v := (σ.2.1 18 (x2).toNatClampNeg)) K.1 dX0_countChanged_20 rfl (b2 c12) rfl ?_
    refine V_aload_n 0 K.1 dX0_countChanged_21 rfl rfl ?_
    refine V_get (v := .ref (ω.2.2.1 20)) K.1 dX0_countChanged_22 rfl rfl fw_X0_24 rfl rfl ?_
    refine V_iload_n 2 K.1 dX0_countChanged_25 rfl rfl ?_
    refine V_iaload (v := (σ.2.1 20 (x2).toNatClampNeg)) K.1 dX0_countChanged_26 rfl (b3 c12) rfl ?_
    refine V_icmp_eq (tgt := 33) K.1 dX0_countChanged_27 (by decide) (fun c27 => ?_) (fun c27 => ?_)
    · refine V_iinc (v := (x2 + 1)) (L' := [(0, .ref (ω.2.2.1 15)), (1, .int x1), (2, .int (x2 + 1))]) 2 K.1 dX0_countChanged_33 rfl rfl (by decide) rfl ?_
      refine V_goto (tgt := 4) K.1 dX0_countChanged_36 (by decide) ?_
      exact (k4 c12 c27)
    · refine V_iinc (v := (x1 + 1)) (L' := [(0, .ref (ω.2.2.1 15)), (1, .int (x1 + 1)), (2, .int x2)]) 1 K.1 dX0_countChanged_30 rfl rfl (by decide) rfl ?_
      refine V_iinc (v := (x2 + 1)) (L' := [(0, .ref (ω.2.2.1 15)), (1, .int (x1 + 1)), (2, .int (x2 + 1))]) 2 K.1 dX0_countChanged_33 rfl rfl (by decide) rfl ?_
      refine V_goto (tgt := 4) K.1 dX0_countChanged_36 (by decide) ?_
      exact (k5 c12 c27)
set_option maxRecDepth 20000 in
theorem R_X0_hasSeatsAsIn_0 {ω : WT} {κ : KT} {l : Launch} {d : Nat} {post : Option Value → St → Prop} {σ : St} {x2 : Int32} {j : Nat} (hj : j < 4) (K : Cm ω κ l yX0_hasSeatsAsIn cX0_hasSeatsAsIn 4 d (some .boolean) post)
    (k1 : V ω κ 2 [(0, .ref (ω.2.2.1 15)), (1, .ref (ω.2.2.1 (2 + j))), (2, .int x2), (3, .int (0 : Int32))] [] σ) :
    V ω κ 0 [(0, .ref (ω.2.2.1 15)), (1, .ref (ω.2.2.1 (2 + j))), (2, .int x2)] [] σ := by
  refine V_iconst (v := 0) K.1 dX0_hasSeatsAsIn_0 (by decide) ?_
  refine V_istore_n (L' := [(0, .ref (ω.2.2.1 15)), (1, .ref (ω.2.2.1 (2 + j))), (2, .int x2), (3, .int (0 : Int32))]) K.1 dX0_hasSeatsAsIn_1 rfl (by decide) rfl ?_
  exact k1
set_option maxRecDepth 20000 in
theorem R_X0_hasSeatsAsIn_2 {ω : WT} {κ : KT} {l : Launch} {d : Nat} {post : Option Value → St → Prop} {σ : St} {x2 x3 : Int32} {j : Nat} (hj : j < 4) (K : Cm ω κ l yX0_hasSeatsAsIn cX0_hasSeatsAsIn 4 d (some .boolean) post) (hdp : 1 ≤ d)
    (k1 : ((σ.1 644) ≤ x3) → post (some (.int (1 : Int32))) σ)
    (b2 : ¬ ((σ.1 644) ≤ x3) → vp_in x3 6)
    (p3 : ¬ ((σ.1 644) ≤ x3) → ¬ ((x2 + x3) < 0) → ¬ ((σ.1 (64 * (2 + j) + 1)) ≤ (x2 + x3)) → vp_in (x2 + x3) 80)
    (k4 : ¬ ((σ.1 644) ≤ x3) → ((σ.2.1 19 (x3).toNatClampNeg) = (if ((x2 + x3) < 0) then (0 : Int32) else (if ((σ.1 (64 * (2 + j) + 1)) ≤ (x2 + x3)) then (0 : Int32) else (σ.2.1 (6 + j) ((x2 + x3)).toNatClampNeg)))) → V ω κ 2 [(0, .ref (ω.2.2.1 15)), (1, .ref (ω.2.2.1 (2 + j))), (2, .int x2), (3, .int (x3 + 1))] [] σ)
    (k5 : ¬ ((σ.1 644) ≤ x3) → ¬ ((σ.2.1 19 (x3).toNatClampNeg) = (if ((x2 + x3) < 0) then (0 : Int32) else (if ((σ.1 (64 * (2 + j) + 1)) ≤ (x2 + x3)) then (0 : Int32) else (σ.2.1 (6 + j) ((x2 + x3)).toNatClampNeg)))) → post (some (.int (0 : Int32))) σ) :
    V ω κ 2 [(0, .ref (ω.2.2.1 15)), (1, .ref (ω.2.2.1 (2 + j))), (2, .int x2), (3, .int x3)] [] σ := by
  refine V_iload_n 3 K.1 dX0_hasSeatsAsIn_2 rfl rfl ?_
  refine V_aload_n 0 K.1 dX0_hasSeatsAsIn_3 rfl rfl ?_
  refine V_get (v := .ref (ω.2.2.1 10)) K.1 dX0_hasSeatsAsIn_4 rfl rfl fw_X0_27 rfl rfl ?_
  refine V_get (v := .int (σ.1 644)) K.1 dX0_hasSeatsAsIn_7 rfl rfl fw_X0_35 rfl rfl ?_
  refine V_icmp_ge (tgt := 37) K.1 dX0_hasSeatsAsIn_10 (by decide) (fun c10 => ?_) (fun c10 => ?_)
  · refine V_iconst (v := 1) K.1 dX0_hasSeatsAsIn_37 (by decide) ?_
    exact V_zret K dX0_hasSeatsAsIn_38 (Or.inr rfl) (k1 c10)
  · refine V_aload_n 0 K.1 dX0_hasSeatsAsIn_13 rfl rfl ?_
    refine V_get (v := .ref (ω.2.2.1 19)) K.1 dX0_hasSeatsAsIn_14 rfl rfl fw_X0_21 rfl rfl ?_
    refine V_iload_n 3 K.1 dX0_hasSeatsAsIn_17 rfl rfl ?_
    refine V_iaload (v := (σ.2.1 19 (x3).toNatClampNeg)) K.1 dX0_hasSeatsAsIn_18 rfl (b2 c10) rfl ?_
    refine V_aload_n 1 K.1 dX0_hasSeatsAsIn_19 rfl rfl ?_
    refine V_iload_n 2 K.1 dX0_hasSeatsAsIn_20 rfl rfl ?_
    refine V_iload_n 3 K.1 dX0_hasSeatsAsIn_21 rfl rfl ?_
    refine V_iadd K.1 dX0_hasSeatsAsIn_22 ?_
    refine V_callV (d' := d - 1) (As := [.int (x2 + x3)]) K.1 dX0_hasSeatsAsIn_23 cw_X0_69 (shO j hj) rfl rfl (by omega) rfl (by simp [Value.category]) (m_X6_at hj K.1.wf (by omega) (p3 c10)) (go_I ?_)
    refine V_icmp_eq (tgt := 31) K.1 dX0_hasSeatsAsIn_26 (by decide) (fun c26 => ?_) (fun c26 => ?_)
    · refine V_iinc (v := (x3 + 1)) (L' := [(0, .ref (ω.2.2.1 15)), (1, .ref (ω.2.2.1 (2 + j))), (2, .int x2), (3, .int (x3 + 1))]) 3 K.1 dX0_hasSeatsAsIn_31 rfl rfl (by decide) rfl ?_
      refine V_goto (tgt := 2) K.1 dX0_hasSeatsAsIn_34 (by decide) ?_
      exact (k4 c10 c26)
    · refine V_iconst (v := 0) K.1 dX0_hasSeatsAsIn_29 (by decide) ?_
      exact V_zret K dX0_hasSeatsAsIn_30 (Or.inl rfl) (k5 c10 c26)
