set_option maxRecDepth 20000 in
theorem R_X5_find_0 {ω : WT} {κ : KT} {l : Launch} {d : Nat} {post : Option Value → St → Prop} {σ : St}  (K : Cm ω κ l yX5_find cX5_find 3 d none post) (hdp : 2 ≤ d)
    (k1 : V ω κ 21 [(0, .ref (ω.2.2.1 21)), (1, .int (0 : Int32))] [] (pS (pF σ 22 (fillF (σ.2.1 22) (-1 : Int32) 256)) 1347 (((if (((σ.1 640) - (1 : Int32)) < (0 : Int32)) then (0 : Int32) else ((σ.1 640) - (1 : Int32))) * (256 : Int32)) + (((1 : Int32) <<< ((σ.1 640) &&& 31)) - (1 : Int32))))) :
    V ω κ 0 [(0, .ref (ω.2.2.1 21))] [] σ := by
  refine V_aload_n 0 K.1 dX5_find_0 rfl rfl ?_
  refine V_get (v := .ref (ω.2.2.1 22)) K.1 dX5_find_1 rfl rfl fw_X5_9 rfl rfl ?_
  refine V_iconst (v := -1) K.1 dX5_find_4 (by decide) ?_
  refine V_callS (d' := d - 1) (As := [.ref (ω.2.2.1 22), .int (-1 : Int32)]) K.1 dX5_find_5 cw_X5_23 rfl (by omega) rfl (by simp [Value.category]) (m_J7_fill_53178 rfl K.1.wf (by omega)) (go_V ?_)
  refine V_aload_n 0 K.1 dX5_find_8 rfl rfl ?_
  refine V_aload_n 0 K.1 dX5_find_9 rfl rfl ?_
  refine V_get (v := .ref (ω.2.2.1 14)) K.1 dX5_find_10 rfl rfl fw_X5_15 rfl rfl ?_
  refine V_callV (d' := d - 1) (As := []) K.1 dX5_find_13 cw_X5_29 rfl rfl rfl (by omega) rfl (by simp [Value.category]) (m_X2_opening K.1.wf (by omega)) (go_I ?_)
  refine V_putI (key := 1347) K.1 dX5_find_16 rfl rfl fw_X5_35 pw_X5_3 rfl rfl rfl rfl ?_
  refine V_iconst (v := 0) K.1 dX5_find_19 (by decide) ?_
  refine V_istore_n (L' := [(0, .ref (ω.2.2.1 21)), (1, .int (0 : Int32))]) K.1 dX5_find_20 rfl (by decide) rfl ?_
  exact k1
set_option maxRecDepth 20000 in
theorem R_X5_find_21 {ω : WT} {κ : KT} {l : Launch} {d : Nat} {post : Option Value → St → Prop} {σ : St} {x1 : Int32}  (K : Cm ω κ l yX5_find cX5_find 3 d none post) (hdp : 2 ≤ d)
    (k1 : ((256 : Int32) < x1) → post none σ)
    (b2 : ¬ ((256 : Int32) < x1) → vp_in (if ((σ.1 898) = (2 : Int32)) then (((((σ.1 1347) / (256 : Int32)) * (2 : Int32)) * (8 : Int32)) + (F_bc ((σ.1 1347) &&& (255 : Int32)))) else ((σ.1 1347) &&& (255 : Int32))) 256)
    (b3 : ¬ ((256 : Int32) < x1) → ((σ.2.1 22 ((if ((σ.1 898) = (2 : Int32)) then (((((σ.1 1347) / (256 : Int32)) * (2 : Int32)) * (8 : Int32)) + (F_bc ((σ.1 1347) &&& (255 : Int32)))) else ((σ.1 1347) &&& (255 : Int32)))).toNatClampNeg) = (-1 : Int32)) → vp_in (if ((σ.1 898) = (2 : Int32)) then (((((σ.1 1347) / (256 : Int32)) * (2 : Int32)) * (8 : Int32)) + (F_bc ((σ.1 1347) &&& (255 : Int32)))) else ((σ.1 1347) &&& (255 : Int32))) 256)
    (k4 : ¬ ((256 : Int32) < x1) → ((σ.2.1 22 ((if ((σ.1 898) = (2 : Int32)) then (((((σ.1 1347) / (256 : Int32)) * (2 : Int32)) * (8 : Int32)) + (F_bc ((σ.1 1347) &&& (255 : Int32)))) else ((σ.1 1347) &&& (255 : Int32)))).toNatClampNeg) = (-1 : Int32)) → V ω κ 88 [(0, .ref (ω.2.2.1 21)), (1, .int x1)] [.int (0 : Int32), .int (σ.1 1347), .ref (ω.2.2.1 15), .ref (ω.2.2.1 21)] (pA σ 22 ((if ((σ.1 898) = (2 : Int32)) then (((((σ.1 1347) / (256 : Int32)) * (2 : Int32)) * (8 : Int32)) + (F_bc ((σ.1 1347) &&& (255 : Int32)))) else ((σ.1 1347) &&& (255 : Int32)))).toNatClampNeg x1))
    (b5 : ¬ ((256 : Int32) < x1) → ¬ ((σ.2.1 22 ((if ((σ.1 898) = (2 : Int32)) then (((((σ.1 1347) / (256 : Int32)) * (2 : Int32)) * (8 : Int32)) + (F_bc ((σ.1 1347) &&& (255 : Int32)))) else ((σ.1 1347) &&& (255 : Int32)))).toNatClampNeg) = (-1 : Int32)) → vp_in (if ((σ.1 898) = (2 : Int32)) then (((((σ.1 1347) / (256 : Int32)) * (2 : Int32)) * (8 : Int32)) + (F_bc ((σ.1 1347) &&& (255 : Int32)))) else ((σ.1 1347) &&& (255 : Int32))) 256)
    (k6 : ¬ ((256 : Int32) < x1) → ¬ ((σ.2.1 22 ((if ((σ.1 898) = (2 : Int32)) then (((((σ.1 1347) / (256 : Int32)) * (2 : Int32)) * (8 : Int32)) + (F_bc ((σ.1 1347) &&& (255 : Int32)))) else ((σ.1 1347) &&& (255 : Int32)))).toNatClampNeg) = (-1 : Int32)) → post none (pS (pS σ 1348 (σ.2.1 22 ((if ((σ.1 898) = (2 : Int32)) then (((((σ.1 1347) / (256 : Int32)) * (2 : Int32)) * (8 : Int32)) + (F_bc ((σ.1 1347) &&& (255 : Int32)))) else ((σ.1 1347) &&& (255 : Int32)))).toNatClampNeg)) 1349 (x1 - (σ.2.1 22 ((if ((σ.1 898) = (2 : Int32)) then (((((σ.1 1347) / (256 : Int32)) * (2 : Int32)) * (8 : Int32)) + (F_bc ((σ.1 1347) &&& (255 : Int32)))) else ((σ.1 1347) &&& (255 : Int32)))).toNatClampNeg)))) :
    V ω κ 21 [(0, .ref (ω.2.2.1 21)), (1, .int x1)] [] σ := by
  refine V_iload_n 1 K.1 dX5_find_21 rfl rfl ?_
  refine V_sipush (v := 256) K.1 dX5_find_22 (by decide) ?_
  refine V_icmp_gt (tgt := 100) K.1 dX5_find_25 (by decide) (fun c25 => ?_) (fun c25 => ?_)
  · exact V_vret K dX5_find_100 (k1 c25)
  · refine V_aload_n 0 K.1 dX5_find_28 rfl rfl ?_
    refine V_get (v := .ref (ω.2.2.1 14)) K.1 dX5_find_29 rfl rfl fw_X5_15 rfl rfl ?_
    refine V_aload_n 0 K.1 dX5_find_32 rfl rfl ?_
    refine V_get (v := .int (σ.1 1347)) K.1 dX5_find_33 rfl rfl fw_X5_35 rfl rfl ?_
    refine V_callV (d' := d - 1) (As := [.int (σ.1 1347)]) K.1 dX5_find_36 cw_X5_39 rfl rfl rfl (by omega) rfl (by simp [Value.category]) (m_X2_slotOf K.1.wf (by omega)) (go_I ?_)
    refine V_istore_n (L' := [(0, .ref (ω.2.2.1 21)), (1, .int x1), (2, .int (if ((σ.1 898) = (2 : Int32)) then (((((σ.1 1347) / (256 : Int32)) * (2 : Int32)) * (8 : Int32)) + (F_bc ((σ.1 1347) &&& (255 : Int32)))) else ((σ.1 1347) &&& (255 : Int32))))]) K.1 dX5_find_39 rfl (by decide) rfl ?_
    refine V_aload_n 0 K.1 dX5_find_40 rfl rfl ?_
    refine V_get (v := .ref (ω.2.2.1 22)) K.1 dX5_find_41 rfl rfl fw_X5_9 rfl rfl ?_
    refine V_iload_n 2 K.1 dX5_find_44 rfl rfl ?_
    refine V_iaload (v := (σ.2.1 22 ((if ((σ.1 898) = (2 : Int32)) then (((((σ.1 1347) / (256 : Int32)) * (2 : Int32)) * (8 : Int32)) + (F_bc ((σ.1 1347) &&& (255 : Int32)))) else ((σ.1 1347) &&& (255 : Int32)))).toNatClampNeg)) K.1 dX5_find_45 rfl (b2 c25) rfl ?_
    refine V_iconst (v := -1) K.1 dX5_find_46 (by decide) ?_
    refine V_icmp_eq (tgt := 71) K.1 dX5_find_47 (by decide) (fun c47 => ?_) (fun c47 => ?_)
    · refine V_aload_n 0 K.1 dX5_find_71 rfl rfl ?_
      refine V_get (v := .ref (ω.2.2.1 22)) K.1 dX5_find_72 rfl rfl fw_X5_9 rfl rfl ?_
      refine V_iload_n 2 K.1 dX5_find_75 rfl rfl ?_
      refine V_iload_n 1 K.1 dX5_find_76 rfl rfl ?_
      refine V_iastore K.1 dX5_find_77 rfl (b3 c25 c47) ?_
      refine V_aload_n 0 K.1 dX5_find_78 rfl rfl ?_
      refine V_aload_n 0 K.1 dX5_find_79 rfl rfl ?_
      refine V_get (v := .ref (ω.2.2.1 15)) K.1 dX5_find_80 rfl rfl fw_X5_19 rfl rfl ?_
      refine V_aload_n 0 K.1 dX5_find_83 rfl rfl ?_
      refine V_get (v := .int (σ.1 1347)) K.1 dX5_find_84 rfl rfl fw_X5_35 rfl rfl ?_
      refine V_iconst (v := 0) K.1 dX5_find_87 (by decide) ?_
      exact V_sub [0, 1] rfl (k4 c25 c47)
    · refine V_aload_n 0 K.1 dX5_find_50 rfl rfl ?_
      refine V_aload_n 0 K.1 dX5_find_51 rfl rfl ?_
      refine V_get (v := .ref (ω.2.2.1 22)) K.1 dX5_find_52 rfl rfl fw_X5_9 rfl rfl ?_
      refine V_iload_n 2 K.1 dX5_find_55 rfl rfl ?_
      refine V_iaload (v := (σ.2.1 22 ((if ((σ.1 898) = (2 : Int32)) then (((((σ.1 1347) / (256 : Int32)) * (2 : Int32)) * (8 : Int32)) + (F_bc ((σ.1 1347) &&& (255 : Int32)))) else ((σ.1 1347) &&& (255 : Int32)))).toNatClampNeg)) K.1 dX5_find_56 rfl (b5 c25 c47) rfl ?_
      refine V_putI (key := 1348) K.1 dX5_find_57 rfl rfl fw_X5_43 pw_X5_4 rfl rfl rfl rfl ?_
      refine V_aload_n 0 K.1 dX5_find_60 rfl rfl ?_
      refine V_iload_n 1 K.1 dX5_find_61 rfl rfl ?_
      refine V_aload_n 0 K.1 dX5_find_62 rfl rfl ?_
      refine V_get (v := .int (σ.2.1 22 ((if ((σ.1 898) = (2 : Int32)) then (((((σ.1 1347) / (256 : Int32)) * (2 : Int32)) * (8 : Int32)) + (F_bc ((σ.1 1347) &&& (255 : Int32)))) else ((σ.1 1347) &&& (255 : Int32)))).toNatClampNeg)) K.1 dX5_find_63 rfl rfl fw_X5_43 rfl rfl ?_
      refine V_isub K.1 dX5_find_66 ?_
      refine V_putI (key := 1349) K.1 dX5_find_67 rfl rfl fw_X5_46 pw_X5_5 rfl rfl rfl rfl ?_
      exact V_vret K dX5_find_70 (k6 c25 c47)
set_option maxRecDepth 20000 in
theorem R_X5_find_91 {ω : WT} {κ : KT} {l : Launch} {d : Nat} {post : Option Value → St → Prop} {σ : St} {x1 s1 : Int32}  (K : Cm ω κ l yX5_find cX5_find 3 d none post)
    (k1 : V ω κ 21 [(0, .ref (ω.2.2.1 21)), (1, .int (x1 + 1))] [] (pS σ 1347 s1)) :
    V ω κ 91 [(0, .ref (ω.2.2.1 21)), (1, .int x1)] [.int s1, .ref (ω.2.2.1 21)] σ := by
  refine V_putI (key := 1347) K.1 dX5_find_91 rfl rfl fw_X5_35 pw_X5_3 rfl rfl rfl rfl ?_
  refine V_iinc (v := (x1 + 1)) (L' := [(0, .ref (ω.2.2.1 21)), (1, .int (x1 + 1))]) 1 K.1 dX5_find_94 rfl rfl (by decide) rfl ?_
  refine V_goto (tgt := 21) K.1 dX5_find_97 (by decide) ?_
  exact k1
set_option maxRecDepth 20000 in
theorem C_X5_find_88 {ω : WT} {κ : KT} {l : Launch} {d : Nat} {post : Option Value → St → Prop} {σ : St} {x1 s2 s3 : Int32}  {post' : Option Value → St → Prop} (K : Cm ω κ l yX5_find cX5_find 3 d none post) (hdp : 1 ≤ d) (hM : Sp ω l yX0_go cX0_go 5 (some .int) (d - 1) [.ref (ω.2.2.1 15), .int s2, .int s3] σ post')
    (kk : ∀ (v : Option Value) (σ' : St), post' v σ' → V ω κ 91 [(0, .ref (ω.2.2.1 21)), (1, .int x1)] (v.toList ++ [.ref (ω.2.2.1 21)]) σ') : V ω κ 88 [(0, .ref (ω.2.2.1 21)), (1, .int x1)] [.int s3, .int s2, .ref (ω.2.2.1 15), .ref (ω.2.2.1 21)] σ := by
  exact V_callV (d' := d - 1) (As := [.int s2, .int s3]) (rest := [.ref (ω.2.2.1 21)]) K.1 dX5_find_88 cw_X5_49 rfl rfl rfl (by omega) rfl (by simp [Value.category]) hM (fun v σ' h => kk v σ' h)
set_option maxRecDepth 20000 in
theorem R_X5_timesWonByYes_0 {ω : WT} {κ : KT} {l : Launch} {d : Nat} {post : Option Value → St → Prop} {σ : St} {x1 : Int32}  (K : Cm ω κ l yX5_timesWonByYes cX5_timesWonByYes 5 d (some .int) post)
    (k1 : V ω κ 10 [(0, .ref (ω.2.2.1 21)), (1, .int x1), (2, .int (0 : Int32)), (3, .int (σ.1 1347)), (4, .int (0 : Int32))] [] σ) :
    V ω κ 0 [(0, .ref (ω.2.2.1 21)), (1, .int x1)] [] σ := by
  refine V_iconst (v := 0) K.1 dX5_timesWonByYes_0 (by decide) ?_
  refine V_istore_n (L' := [(0, .ref (ω.2.2.1 21)), (1, .int x1), (2, .int (0 : Int32))]) K.1 dX5_timesWonByYes_1 rfl (by decide) rfl ?_
  refine V_aload_n 0 K.1 dX5_timesWonByYes_2 rfl rfl ?_
  refine V_get (v := .int (σ.1 1347)) K.1 dX5_timesWonByYes_3 rfl rfl fw_X5_35 rfl rfl ?_
  refine V_istore_n (L' := [(0, .ref (ω.2.2.1 21)), (1, .int x1), (2, .int (0 : Int32)), (3, .int (σ.1 1347))]) K.1 dX5_timesWonByYes_6 rfl (by decide) rfl ?_
  refine V_iconst (v := 0) K.1 dX5_timesWonByYes_7 (by decide) ?_
  refine V_istore (L' := [(0, .ref (ω.2.2.1 21)), (1, .int x1), (2, .int (0 : Int32)), (3, .int (σ.1 1347)), (4, .int (0 : Int32))]) K.1 dX5_timesWonByYes_8 (by decide) rfl ?_
  exact k1
set_option maxRecDepth 20000 in
theorem R_X5_timesWonByYes_10 {ω : WT} {κ : KT} {l : Launch} {d : Nat} {post : Option Value → St → Prop} {σ : St} {x1 x2 x3 x4 : Int32}  (K : Cm ω κ l yX5_timesWonByYes cX5_timesWonByYes 5 d (some .int) post)
    (k1 : ((σ.1 1349) ≤ x4) → post (some (.int x2)) σ)
    (k2 : ¬ ((σ.1 1349) ≤ x4) → V ω κ 25 [(0, .ref (ω.2.2.1 21)), (1, .int x1), (2, .int x2), (4, .int x4)] [.int (0 : Int32), .int x3, .ref (ω.2.2.1 15)] σ) :
    V ω κ 10 [(0, .ref (ω.2.2.1 21)), (1, .int x1), (2, .int x2), (3, .int x3), (4, .int x4)] [] σ := by
  refine V_iload 4 K.1 dX5_timesWonByYes_10 rfl ?_
  refine V_aload_n 0 K.1 dX5_timesWonByYes_12 rfl rfl ?_
  refine V_get (v := .int (σ.1 1349)) K.1 dX5_timesWonByYes_13 rfl rfl fw_X5_46 rfl rfl ?_
  refine V_icmp_ge (tgt := 51) K.1 dX5_timesWonByYes_16 (by decide) (fun c16 => ?_) (fun c16 => ?_)
  · refine V_iload_n 2 K.1 dX5_timesWonByYes_51 rfl rfl ?_
    exact V_iret K dX5_timesWonByYes_52 (k1 c16)
  · refine V_aload_n 0 K.1 dX5_timesWonByYes_19 rfl rfl ?_
    refine V_get (v := .ref (ω.2.2.1 15)) K.1 dX5_timesWonByYes_20 rfl rfl fw_X5_19 rfl rfl ?_
    refine V_iload_n 3 K.1 dX5_timesWonByYes_23 rfl rfl ?_
    refine V_iconst (v := 0) K.1 dX5_timesWonByYes_24 (by decide) ?_
    exact V_sub [0, 1, 2, 4] rfl (k2 c16)
set_option maxRecDepth 20000 in
theorem R_X5_timesWonByYes_28 {ω : WT} {κ : KT} {l : Launch} {d : Nat} {post : Option Value → St → Prop} {σ : St} {x1 x2 x4 s0 : Int32}  (K : Cm ω κ l yX5_timesWonByYes cX5_timesWonByYes 5 d (some .int) post)
    (b1 : vp_in x1 6)
    (k2 : ¬ ((σ.2.1 18 (x1).toNatClampNeg) = (1 : Int32)) → V ω κ 10 [(0, .ref (ω.2.2.1 21)), (1, .int x1), (2, .int x2), (3, .int s0), (4, .int (x4 + 1))] [] σ)
    (k3 : ((σ.2.1 18 (x1).toNatClampNeg) = (1 : Int32)) → V ω κ 10 [(0, .ref (ω.2.2.1 21)), (1, .int x1), (2, .int (x2 + 1)), (3, .int s0), (4, .int (x4 + 1))] [] σ) :
    V ω κ 28 [(0, .ref (ω.2.2.1 21)), (1, .int x1), (2, .int x2), (4, .int x4)] [.int s0] σ := by
  refine V_istore_n (L' := [(0, .ref (ω.2.2.1 21)), (1, .int x1), (2, .int x2), (3, .int s0), (4, .int x4)]) K.1 dX5_timesWonByYes_28 rfl (by decide) rfl ?_
  refine V_aload_n 0 K.1 dX5_timesWonByYes_29 rfl rfl ?_
  refine V_get (v := .ref (ω.2.2.1 15)) K.1 dX5_timesWonByYes_30 rfl rfl fw_X5_19 rfl rfl ?_
  refine V_get (v := .ref (ω.2.2.1 18)) K.1 dX5_timesWonByYes_33 rfl rfl fw_X5_55 rfl rfl ?_
  refine V_iload_n 1 K.1 dX5_timesWonByYes_36 rfl rfl ?_
  refine V_iaload (v := (σ.2.1 18 (x1).toNatClampNeg)) K.1 dX5_timesWonByYes_37 rfl b1 rfl ?_
  refine V_iconst (v := 1) K.1 dX5_timesWonByYes_38 (by decide) ?_
  refine V_icmp_ne (tgt := 45) K.1 dX5_timesWonByYes_39 (by decide) (fun c39 => ?_) (fun c39 => ?_)
  · refine V_iinc (v := (x4 + 1)) (L' := [(0, .ref (ω.2.2.1 21)), (1, .int x1), (2, .int x2), (3, .int s0), (4, .int (x4 + 1))]) 4 K.1 dX5_timesWonByYes_45 rfl rfl (by decide) rfl ?_
    refine V_goto (tgt := 10) K.1 dX5_timesWonByYes_48 (by decide) ?_
    exact (k2 c39)
  · refine V_iinc (v := (x2 + 1)) (L' := [(0, .ref (ω.2.2.1 21)), (1, .int x1), (2, .int (x2 + 1)), (3, .int s0), (4, .int x4)]) 2 K.1 dX5_timesWonByYes_42 rfl rfl (by decide) rfl ?_
    refine V_iinc (v := (x4 + 1)) (L' := [(0, .ref (ω.2.2.1 21)), (1, .int x1), (2, .int (x2 + 1)), (3, .int s0), (4, .int (x4 + 1))]) 4 K.1 dX5_timesWonByYes_45 rfl rfl (by decide) rfl ?_
    refine V_goto (tgt := 10) K.1 dX5_timesWonByYes_48 (by decide) ?_
    exact (k3 c39)
set_option maxRecDepth 20000 in
theorem C_X5_timesWonByYes_25 {ω : WT} {κ : KT} {l : Launch} {d : Nat} {post : Option Value → St → Prop} {σ : St} {x1 x2 x4 s1 s2 : Int32}  {post' : Option Value → St → Prop} (K : Cm ω κ l yX5_timesWonByYes cX5_timesWonByYes 5 d (some .int) post) (hdp : 1 ≤ d) (hM : Sp ω l yX0_go cX0_go 5 (some .int) (d - 1) [.ref (ω.2.2.1 15), .int s1, .int s2] σ post')
    (kk : ∀ (v : Option Value) (σ' : St), post' v σ' → V ω κ 28 [(0, .ref (ω.2.2.1 21)), (1, .int x1), (2, .int x2), (4, .int x4)] (v.toList ++ []) σ') : V ω κ 25 [(0, .ref (ω.2.2.1 21)), (1, .int x1), (2, .int x2), (4, .int x4)] [.int s2, .int s1, .ref (ω.2.2.1 15)] σ := by
  exact V_callV (d' := d - 1) (As := [.int s1, .int s2]) (rest := []) K.1 dX5_timesWonByYes_25 cw_X5_49 rfl rfl rfl (by omega) rfl (by simp [Value.category]) hM (fun v σ' h => kk v σ' h)
set_option maxRecDepth 20000 in
theorem R_X8_ever_0 {ω : WT} {κ : KT} {l : Launch} {d : Nat} {post : Option Value → St → Prop} {σ : St} {x1 : Int32}  (K : Cm ω κ l yX8_ever cX8_ever 2 d (some .int) post) (hdp : 2 ≤ d)
    (k1 : (x1 < 0) → post (some (.int (-2 : Int32))) σ)
    (k2 : ¬ (x1 < 0) → (x1 ≤ (1 : Int32)) → ¬ ((if ((σ.1 640) ≤ 0) then (0 : Int32) else (1 : Int32)) = 0) → V ω κ 36 [(0, .ref (ω.2.2.1 0)), (1, .int x1)] [.ref (ω.2.2.1 21)] (pS (pS σ 897 (σ.1 642)) 898 (σ.1 643)))
    (k3 : ¬ (x1 < 0) → (x1 ≤ (1 : Int32)) → ((if ((σ.1 640) ≤ 0) then (0 : Int32) else (1 : Int32)) = 0) → post (some (.int (-3 : Int32))) σ)
    (k4 : ¬ (x1 < 0) → ¬ (x1 ≤ (1 : Int32)) → post (some (.int (-2 : Int32))) σ) :
    V ω κ 0 [(0, .ref (ω.2.2.1 0)), (1, .int x1)] [] σ := by
  refine V_iload_n 1 K.1 dX8_ever_0 rfl rfl ?_
  refine V_if_lt (tgt := 9) K.1 dX8_ever_1 (by decide) (fun c1 => ?_) (fun c1 => ?_)
  · refine V_bipush (v := -2) K.1 dX8_ever_9 (by decide) ?_
    exact V_iret K dX8_ever_11 (k1 c1)
  · refine V_iload_n 1 K.1 dX8_ever_4 rfl rfl ?_
    refine V_iconst (v := 1) K.1 dX8_ever_5 (by decide) ?_
    refine V_icmp_le (tgt := 12) K.1 dX8_ever_6 (by decide) (fun c6 => ?_) (fun c6 => ?_)
    · refine V_aload_n 0 K.1 dX8_ever_12 rfl rfl ?_
      refine V_get (v := .ref (ω.2.2.1 10)) K.1 dX8_ever_13 rfl rfl fw_X8_21 rfl rfl ?_
      refine V_callV (d' := d - 1) (As := []) K.1 dX8_ever_16 cw_X8_107 rfl rfl rfl (by omega) rfl (by simp [Value.category]) (m_X7_stands K.1.wf (by omega)) (go_I ?_)
      refine V_if_ne (tgt := 25) K.1 dX8_ever_19 (by decide) (fun c19 => ?_) (fun c19 => ?_)
      · refine V_aload_n 0 K.1 dX8_ever_25 rfl rfl ?_
        refine V_get (v := .ref (ω.2.2.1 14)) K.1 dX8_ever_26 rfl rfl fw_X8_30 rfl rfl ?_
        refine V_callV (d' := d - 1) (As := []) K.1 dX8_ever_29 cw_X8_149 rfl rfl rfl (by omega) rfl (by simp [Value.category]) (m_X2_useOwnRules K.1.wf (by omega)) (go_V ?_)
        refine V_aload_n 0 K.1 dX8_ever_32 rfl rfl ?_
        refine V_get (v := .ref (ω.2.2.1 21)) K.1 dX8_ever_33 rfl rfl fw_X8_48 rfl rfl ?_
        exact (k2 c1 c6 c19)
      · refine V_bipush (v := -3) K.1 dX8_ever_22 (by decide) ?_
        exact V_iret K dX8_ever_24 (k3 c1 c6 c19)
    · refine V_bipush (v := -2) K.1 dX8_ever_9 (by decide) ?_
      exact V_iret K dX8_ever_11 (k4 c1 c6)
set_option maxRecDepth 20000 in
theorem R_X8_ever_39 {ω : WT} {κ : KT} {l : Launch} {d : Nat} {post : Option Value → St → Prop} {σ : St} {x1 : Int32}  (K : Cm ω κ l yX8_ever cX8_ever 2 d (some .int) post)
    (k2 : post (some (.int (if (x1 = 0) then (σ.1 1348) else (σ.1 1349)))) σ) :
    V ω κ 39 [(0, .ref (ω.2.2.1 0)), (1, .int x1)] [] σ := by
  refine V_iload_n 1 K.1 dX8_ever_39 rfl rfl ?_
  refine V_join (J := 60) (S := []) (v := .int (if (x1 = 0) then (σ.1 1348) else (σ.1 1349))) (fun hJ1 => ?_) ?_
  · refine V_if_ne (tgt := 53) K.1 dX8_ever_40 (by decide) (fun c40 => ?_) (fun c40 => ?_)
    · refine V_aload_n 0 K.1 dX8_ever_53 rfl rfl ?_
      refine V_get (v := .ref (ω.2.2.1 21)) K.1 dX8_ever_54 rfl rfl fw_X8_48 rfl rfl ?_
      refine V_get (v := .int (σ.1 1349)) K.1 dX8_ever_57 rfl rfl fw_X8_158 rfl rfl ?_
      exact V_top (if_neg c40) hJ1
    · refine V_aload_n 0 K.1 dX8_ever_43 rfl rfl ?_
      refine V_get (v := .ref (ω.2.2.1 21)) K.1 dX8_ever_44 rfl rfl fw_X8_48 rfl rfl ?_
      refine V_get (v := .int (σ.1 1348)) K.1 dX8_ever_47 rfl rfl fw_X8_155 rfl rfl ?_
      refine V_goto (tgt := 60) K.1 dX8_ever_50 (by decide) ?_
      exact V_top (if_pos c40) hJ1
  exact V_iret K dX8_ever_60 k2
set_option maxRecDepth 20000 in
theorem C_X8_ever_36 {ω : WT} {κ : KT} {l : Launch} {d : Nat} {post : Option Value → St → Prop} {σ : St} {x1 : Int32}  {post' : Option Value → St → Prop} (K : Cm ω κ l yX8_ever cX8_ever 2 d (some .int) post) (hdp : 1 ≤ d) (hM : Sp ω l yX5_find cX5_find 3 none (d - 1) [.ref (ω.2.2.1 21)] σ post')
    (kk : ∀ (v : Option Value) (σ' : St), post' v σ' → V ω κ 39 [(0, .ref (ω.2.2.1 0)), (1, .int x1)] (v.toList ++ []) σ') : V ω κ 36 [(0, .ref (ω.2.2.1 0)), (1, .int x1)] [.ref (ω.2.2.1 21)] σ := by
  exact V_callV (d' := d - 1) (As := []) (rest := []) K.1 dX8_ever_36 cw_X8_152 rfl rfl rfl (by omega) rfl (by simp [Value.category]) hM (fun v σ' h => kk v σ' h)
set_option maxRecDepth 20000 in
theorem R_X8_often_0 {ω : WT} {κ : KT} {l : Launch} {d : Nat} {post : Option Value → St → Prop} {σ : St} {x1 : Int32}  (K : Cm ω κ l yX8_often cX8_often 3 d (some .int) post) (hdp : 1 ≤ d)
    (k1 : ¬ ((if (x1 < 0) then (0 : Int32) else (if ((σ.1 641) ≤ x1) then (0 : Int32) else (1 : Int32))) = 0) → V ω κ 18 [(0, .ref (ω.2.2.1 0))] [.int x1, .ref (ω.2.2.1 10)] σ)
    (k2 : ((if (x1 < 0) then (0 : Int32) else (if ((σ.1 641) ≤ x1) then (0 : Int32) else (1 : Int32))) = 0) → post (some (.int (-1 : Int32))) σ) :
    V ω κ 0 [(0, .ref (ω.2.2.1 0)), (1, .int x1)] [] σ := by
  refine V_aload_n 0 K.1 dX8_often_0 rfl rfl ?_
  refine V_get (v := .ref (ω.2.2.1 10)) K.1 dX8_often_1 rfl rfl fw_X8_21 rfl rfl ?_
  refine V_iload_n 1 K.1 dX8_often_4 rfl rfl ?_
  refine V_callV (d' := d - 1) (As := [.int x1]) K.1 dX8_often_5 cw_X8_97 rfl rfl rfl (by omega) rfl (by simp [Value.category]) (m_X7_hasMatter K.1.wf (by omega)) (go_I ?_)
  refine V_if_ne (tgt := 13) K.1 dX8_often_8 (by decide) (fun c8 => ?_) (fun c8 => ?_)
  · refine V_aload_n 0 K.1 dX8_often_13 rfl rfl ?_
    refine V_get (v := .ref (ω.2.2.1 10)) K.1 dX8_often_14 rfl rfl fw_X8_21 rfl rfl ?_
    refine V_iload_n 1 K.1 dX8_often_17 rfl rfl ?_
    exact V_sub [0] rfl (k1 c8)
  · refine V_iconst (v := -1) K.1 dX8_often_11 (by decide) ?_
    exact V_iret K dX8_often_12 (k2 c8)
set_option maxRecDepth 20000 in
theorem R_X8_often_21 {ω : WT} {κ : KT} {l : Launch} {d : Nat} {post : Option Value → St → Prop} {σ : St} {s0 : Int32}  (K : Cm ω κ l yX8_often cX8_often 3 d (some .int) post) (hdp : 2 ≤ d)
    (k1 : (0 ≤ s0) → V ω κ 39 [(0, .ref (ω.2.2.1 0)), (2, .int s0)] [.ref (ω.2.2.1 21)] (pS (pS σ 897 (σ.1 642)) 898 (σ.1 643)))
    (k2 : ¬ (0 ≤ s0) → post (some (.int (0 : Int32))) σ) :
    V ω κ 21 [(0, .ref (ω.2.2.1 0))] [.int s0] σ := by
  refine V_istore_n (L' := [(0, .ref (ω.2.2.1 0)), (2, .int s0)]) K.1 dX8_often_21 rfl (by decide) rfl ?_
  refine V_iload_n 1 K.1 dX8_often_22 rfl rfl ?_
  refine V_if_ge (tgt := 28) K.1 dX8_often_23 (by decide) (fun c23 => ?_) (fun c23 => ?_)
  · refine V_aload_n 0 K.1 dX8_often_28 rfl rfl ?_
    refine V_get (v := .ref (ω.2.2.1 14)) K.1 dX8_often_29 rfl rfl fw_X8_30 rfl rfl ?_
    refine V_callV (d' := d - 1) (As := []) K.1 dX8_often_32 cw_X8_149 rfl rfl rfl (by omega) rfl (by simp [Value.category]) (m_X2_useOwnRules K.1.wf (by omega)) (go_V ?_)
    refine V_aload_n 0 K.1 dX8_often_35 rfl rfl ?_
    refine V_get (v := .ref (ω.2.2.1 21)) K.1 dX8_often_36 rfl rfl fw_X8_48 rfl rfl ?_
    exact (k1 c23)
  · refine V_iconst (v := 0) K.1 dX8_often_26 (by decide) ?_
    exact V_iret K dX8_often_27 (k2 c23)
set_option maxRecDepth 20000 in
theorem R_X8_often_42 {ω : WT} {κ : KT} {l : Launch} {d : Nat} {post : Option Value → St → Prop} {σ : St} {x2 : Int32}  (K : Cm ω κ l yX8_often cX8_often 3 d (some .int) post)
    (k1 : V ω κ 47 [] [.int x2, .ref (ω.2.2.1 21)] σ) :
    V ω κ 42 [(0, .ref (ω.2.2.1 0)), (2, .int x2)] [] σ := by
  refine V_aload_n 0 K.1 dX8_often_42 rfl rfl ?_
  refine V_get (v := .ref (ω.2.2.1 21)) K.1 dX8_often_43 rfl rfl fw_X8_48 rfl rfl ?_
  refine V_iload_n 1 K.1 dX8_often_46 rfl rfl ?_
  exact V_sub [] rfl k1
set_option maxRecDepth 20000 in
theorem R_X8_often_50 {ω : WT} {κ : KT} {l : Launch} {d : Nat} {post : Option Value → St → Prop} {σ : St} {s0 : Int32}  (K : Cm ω κ l yX8_often cX8_often 3 d (some .int) post)
    (k1 : post (some (.int s0)) σ) :
    V ω κ 50 [] [.int s0] σ := by
  exact V_iret K dX8_often_50 k1
set_option maxRecDepth 20000 in
theorem C_X8_often_18 {ω : WT} {κ : KT} {l : Launch} {d : Nat} {post : Option Value → St → Prop} {σ : St} {s1 : Int32}  {post' : Option Value → St → Prop} (K : Cm ω κ l yX8_often cX8_often 3 d (some .int) post) (hdp : 1 ≤ d) (hM : Sp ω l yX7_placeOf cX7_placeOf 3 (some .int) (d - 1) [.ref (ω.2.2.1 10), .int s1] σ post')
    (kk : ∀ (v : Option Value) (σ' : St), post' v σ' → V ω κ 21 [(0, .ref (ω.2.2.1 0))] (v.toList ++ []) σ') : V ω κ 18 [(0, .ref (ω.2.2.1 0))] [.int s1, .ref (ω.2.2.1 10)] σ := by
  exact V_callV (d' := d - 1) (As := [.int s1]) (rest := []) K.1 dX8_often_18 cw_X8_142 rfl rfl rfl (by omega) rfl (by simp [Value.category]) hM (fun v σ' h => kk v σ' h)
set_option maxRecDepth 20000 in
theorem C_X8_often_39 {ω : WT} {κ : KT} {l : Launch} {d : Nat} {post : Option Value → St → Prop} {σ : St} {x2 : Int32}  {post' : Option Value → St → Prop} (K : Cm ω κ l yX8_often cX8_often 3 d (some .int) post) (hdp : 1 ≤ d) (hM : Sp ω l yX5_find cX5_find 3 none (d - 1) [.ref (ω.2.2.1 21)] σ post')
    (kk : ∀ (v : Option Value) (σ' : St), post' v σ' → V ω κ 42 [(0, .ref (ω.2.2.1 0)), (2, .int x2)] (v.toList ++ []) σ') : V ω κ 39 [(0, .ref (ω.2.2.1 0)), (2, .int x2)] [.ref (ω.2.2.1 21)] σ := by
  exact V_callV (d' := d - 1) (As := []) (rest := []) K.1 dX8_often_39 cw_X8_152 rfl rfl rfl (by omega) rfl (by simp [Value.category]) hM (fun v σ' h => kk v σ' h)
set_option maxRecDepth 20000 in
theorem C_X8_often_47 {ω : WT} {κ : KT} {l : Launch} {d : Nat} {post : Option Value → St → Prop} {σ : St} {s1 : Int32}  {post' : Option Value → St → Prop} (K : Cm ω κ l yX8_often cX8_often 3 d (some .int) post) (hdp : 1 ≤ d) (hM : Sp ω l yX5_timesWonByYes cX5_timesWonByYes 5 (some .int) (d - 1) [.ref (ω.2.2.1 21), .int s1] σ post')
    (kk : ∀ (v : Option Value) (σ' : St), post' v σ' → V ω κ 50 [] (v.toList ++ []) σ') : V ω κ 47 [] [.int s1, .ref (ω.2.2.1 21)] σ := by
  exact V_callV (d' := d - 1) (As := [.int s1]) (rest := []) K.1 dX8_often_47 cw_X8_161 rfl rfl rfl (by omega) rfl (by simp [Value.category]) hM (fun v σ' h => kk v σ' h)
set_option maxRecDepth 20000 in
theorem R_X9_findRing_0 {ω : WT} {κ : KT} {l : Launch} {d : Nat} {post : Option Value → St → Prop} {σ : St}  (K : Cm ω κ l yX9_findRing cX9_findRing 2 d none post)
    (k1 : V ω κ 2 [(0, .ref (ω.2.2.1 35)), (1, .int (0 : Int32))] [] σ) :
    V ω κ 0 [(0, .ref (ω.2.2.1 35))] [] σ := by
  refine V_iconst (v := 0) K.1 dX9_findRing_0 (by decide) ?_
  refine V_istore_n (L' := [(0, .ref (ω.2.2.1 35)), (1, .int (0 : Int32))]) K.1 dX9_findRing_1 rfl (by decide) rfl ?_
  exact k1
set_option maxRecDepth 20000 in
theorem R_X9_findRing_2 {ω : WT} {κ : KT} {l : Launch} {d : Nat} {post : Option Value → St → Prop} {σ : St} {x1 : Int32}  (K : Cm ω κ l yX9_findRing cX9_findRing 2 d none post) (hdp : 2 ≤ d)
    (k1 : ((4096 : Int32) ≤ x1) → V ω κ 29 [(0, .ref (ω.2.2.1 35)), (1, .int (0 : Int32))] [] (pS (pS (pS (pS (pS σ 2258 (((1 : Int32) <<< ((σ.1 2245) &&& 31)) - (1 : Int32))) 2259 (0 : Int32)) 2260 ((σ.1 2245) - (1 : Int32))) 2261 (σ.1 2249)) 2262 (σ.1 2250)))
    (b2 : ¬ ((4096 : Int32) ≤ x1) → vp_in x1 4096)
    (k3 : ¬ ((4096 : Int32) ≤ x1) → V ω κ 2 [(0, .ref (ω.2.2.1 35)), (1, .int (x1 + 1))] [] (pA σ 48 (x1).toNatClampNeg (-9 : Int32))) :
    V ω κ 2 [(0, .ref (ω.2.2.1 35)), (1, .int x1)] [] σ := by
  refine V_iload_n 1 K.1 dX9_findRing_2 rfl rfl ?_
  refine V_sipush (v := 4096) K.1 dX9_findRing_3 (by decide) ?_
  refine V_icmp_ge (tgt := 23) K.1 dX9_findRing_6 (by decide) (fun c6 => ?_) (fun c6 => ?_)
  · refine V_aload_n 0 K.1 dX9_findRing_23 rfl rfl ?_
    refine V_callV (d' := d - 1) (As := []) K.1 dX9_findRing_24 cw_X9_205 rfl rfl rfl (by omega) rfl (by simp [Value.category]) (m_X9_layHall K.1.wf (by omega)) (go_V ?_)
    refine V_iconst (v := 0) K.1 dX9_findRing_27 (by decide) ?_
    refine V_istore_n (L' := [(0, .ref (ω.2.2.1 35)), (1, .int (0 : Int32))]) K.1 dX9_findRing_28 rfl (by decide) rfl ?_
    exact (k1 c6)
  · refine V_aload_n 0 K.1 dX9_findRing_9 rfl rfl ?_
    refine V_get (v := .ref (ω.2.2.1 48)) K.1 dX9_findRing_10 rfl rfl fw_X9_46 rfl rfl ?_
    refine V_iload_n 1 K.1 dX9_findRing_13 rfl rfl ?_
    refine V_bipush (v := -9) K.1 dX9_findRing_14 (by decide) ?_
    refine V_iastore K.1 dX9_findRing_16 rfl (b2 c6) ?_
    refine V_iinc (v := (x1 + 1)) (L' := [(0, .ref (ω.2.2.1 35)), (1, .int (x1 + 1))]) 1 K.1 dX9_findRing_17 rfl rfl (by decide) rfl ?_
    refine V_goto (tgt := 2) K.1 dX9_findRing_20 (by decide) ?_
    exact (k3 c6)
set_option maxRecDepth 20000 in
theorem R_X9_findRing_29 {ω : WT} {κ : KT} {l : Launch} {d : Nat} {post : Option Value → St → Prop} {σ : St} {x1 : Int32}  (K : Cm ω κ l yX9_findRing cX9_findRing 2 d none post) (hdp : 1 ≤ d)
    (b1 : vp_in (((if ((σ.1 2259) = 0) then (σ.1 2258) else (256 : Int32)) * (8 : Int32)) + (σ.1 2260)) 4096)
    (b2 : ¬ ((σ.2.1 48 ((((if ((σ.1 2259) = 0) then (σ.1 2258) else (256 : Int32)) * (8 : Int32)) + (σ.1 2260))).toNatClampNeg) = (-9 : Int32)) → vp_in (((if ((σ.1 2259) = 0) then (σ.1 2258) else (256 : Int32)) * (8 : Int32)) + (σ.1 2260)) 4096)
    (k3 : ¬ ((σ.2.1 48 ((((if ((σ.1 2259) = 0) then (σ.1 2258) else (256 : Int32)) * (8 : Int32)) + (σ.1 2260))).toNatClampNeg) = (-9 : Int32)) → post none (pS (pS σ 2272 (σ.2.1 48 ((((if ((σ.1 2259) = 0) then (σ.1 2258) else (256 : Int32)) * (8 : Int32)) + (σ.1 2260))).toNatClampNeg)) 2273 (x1 - (σ.2.1 48 ((((if ((σ.1 2259) = 0) then (σ.1 2258) else (256 : Int32)) * (8 : Int32)) + (σ.1 2260))).toNatClampNeg))))
    (b4 : ((σ.2.1 48 ((((if ((σ.1 2259) = 0) then (σ.1 2258) else (256 : Int32)) * (8 : Int32)) + (σ.1 2260))).toNatClampNeg) = (-9 : Int32)) → vp_in (((if ((σ.1 2259) = 0) then (σ.1 2258) else (256 : Int32)) * (8 : Int32)) + (σ.1 2260)) 4096)
    (k5 : ((σ.2.1 48 ((((if ((σ.1 2259) = 0) then (σ.1 2258) else (256 : Int32)) * (8 : Int32)) + (σ.1 2260))).toNatClampNeg) = (-9 : Int32)) → V ω κ 62 [(0, .ref (ω.2.2.1 35)), (1, .int x1)] [.int (σ.1 2251), .ref (ω.2.2.1 41), .ref (ω.2.2.1 35)] (pA σ 48 ((((if ((σ.1 2259) = 0) then (σ.1 2258) else (256 : Int32)) * (8 : Int32)) + (σ.1 2260))).toNatClampNeg x1)) :
    V ω κ 29 [(0, .ref (ω.2.2.1 35)), (1, .int x1)] [] σ := by
  refine V_aload_n 0 K.1 dX9_findRing_29 rfl rfl ?_
  refine V_get (v := .ref (ω.2.2.1 48)) K.1 dX9_findRing_30 rfl rfl fw_X9_46 rfl rfl ?_
  refine V_aload_n 0 K.1 dX9_findRing_33 rfl rfl ?_
  refine V_callV (d' := d - 1) (As := []) K.1 dX9_findRing_34 cw_X9_218 rfl rfl rfl (by omega) rfl (by simp [Value.category]) (m_X9_stateNow K.1.wf (by omega)) (go_I ?_)
  refine V_iaload (v := (σ.2.1 48 ((((if ((σ.1 2259) = 0) then (σ.1 2258) else (256 : Int32)) * (8 : Int32)) + (σ.1 2260))).toNatClampNeg)) K.1 dX9_findRing_37 rfl b1 rfl ?_
  refine V_bipush (v := -9) K.1 dX9_findRing_38 (by decide) ?_
  refine V_icmp_ne (tgt := 71) K.1 dX9_findRing_40 (by decide) (fun c40 => ?_) (fun c40 => ?_)
  · refine V_aload_n 0 K.1 dX9_findRing_71 rfl rfl ?_
    refine V_aload_n 0 K.1 dX9_findRing_72 rfl rfl ?_
    refine V_get (v := .ref (ω.2.2.1 48)) K.1 dX9_findRing_73 rfl rfl fw_X9_46 rfl rfl ?_
    refine V_aload_n 0 K.1 dX9_findRing_76 rfl rfl ?_
    refine V_callV (d' := d - 1) (As := []) K.1 dX9_findRing_77 cw_X9_218 rfl rfl rfl (by omega) rfl (by simp [Value.category]) (m_X9_stateNow K.1.wf (by omega)) (go_I ?_)
    refine V_iaload (v := (σ.2.1 48 ((((if ((σ.1 2259) = 0) then (σ.1 2258) else (256 : Int32)) * (8 : Int32)) + (σ.1 2260))).toNatClampNeg)) K.1 dX9_findRing_80 rfl (b2 c40) rfl ?_
    refine V_putI (key := 2272) K.1 dX9_findRing_81 rfl rfl fw_X9_221 pw_X9_32 rfl rfl rfl rfl ?_
    refine V_aload_n 0 K.1 dX9_findRing_84 rfl rfl ?_
    refine V_iload_n 1 K.1 dX9_findRing_85 rfl rfl ?_
    refine V_aload_n 0 K.1 dX9_findRing_86 rfl rfl ?_
    refine V_get (v := .int (σ.2.1 48 ((((if ((σ.1 2259) = 0) then (σ.1 2258) else (256 : Int32)) * (8 : Int32)) + (σ.1 2260))).toNatClampNeg)) K.1 dX9_findRing_87 rfl rfl fw_X9_221 rfl rfl ?_
    refine V_isub K.1 dX9_findRing_90 ?_
    refine V_putI (key := 2273) K.1 dX9_findRing_91 rfl rfl fw_X9_224 pw_X9_33 rfl rfl rfl rfl ?_
    exact V_vret K dX9_findRing_94 (k3 c40)
  · refine V_aload_n 0 K.1 dX9_findRing_43 rfl rfl ?_
    refine V_get (v := .ref (ω.2.2.1 48)) K.1 dX9_findRing_44 rfl rfl fw_X9_46 rfl rfl ?_
    refine V_aload_n 0 K.1 dX9_findRing_47 rfl rfl ?_
    refine V_callV (d' := d - 1) (As := []) K.1 dX9_findRing_48 cw_X9_218 rfl rfl rfl (by omega) rfl (by simp [Value.category]) (m_X9_stateNow K.1.wf (by omega)) (go_I ?_)
    refine V_iload_n 1 K.1 dX9_findRing_51 rfl rfl ?_
    refine V_iastore K.1 dX9_findRing_52 rfl (b4 c40) ?_
    refine V_aload_n 0 K.1 dX9_findRing_53 rfl rfl ?_
    refine V_aload_n 0 K.1 dX9_findRing_54 rfl rfl ?_
    refine V_get (v := .ref (ω.2.2.1 41)) K.1 dX9_findRing_55 rfl rfl fw_X9_25 rfl rfl ?_
    refine V_aload_n 0 K.1 dX9_findRing_58 rfl rfl ?_
    refine V_get (v := .int (σ.1 2251)) K.1 dX9_findRing_59 rfl rfl fw_X9_130 rfl rfl ?_
    exact (k5 c40)
set_option maxRecDepth 20000 in
theorem R_X9_findRing_65 {ω : WT} {κ : KT} {l : Launch} {d : Nat} {post : Option Value → St → Prop} {σ : St} {x1 : Int32}  (K : Cm ω κ l yX9_findRing cX9_findRing 2 d none post)
    (k1 : V ω κ 29 [(0, .ref (ω.2.2.1 35)), (1, .int (x1 + 1))] [] σ) :
    V ω κ 65 [(0, .ref (ω.2.2.1 35)), (1, .int x1)] [] σ := by
  refine V_iinc (v := (x1 + 1)) (L' := [(0, .ref (ω.2.2.1 35)), (1, .int (x1 + 1))]) 1 K.1 dX9_findRing_65 rfl rfl (by decide) rfl ?_
  refine V_goto (tgt := 29) K.1 dX9_findRing_68 (by decide) ?_
  exact k1
set_option maxRecDepth 20000 in
theorem C_X9_findRing_62 {ω : WT} {κ : KT} {l : Launch} {d : Nat} {post : Option Value → St → Prop} {σ : St} {x1 s2 : Int32}  {post' : Option Value → St → Prop} (K : Cm ω κ l yX9_findRing cX9_findRing 2 d none post) (hdp : 1 ≤ d) (hM : Sp ω l yX9_goRun cX9_goRun 4 none (d - 1) [.ref (ω.2.2.1 35), .ref (ω.2.2.1 41), .int s2] σ post')
    (kk : ∀ (v : Option Value) (σ' : St), post' v σ' → V ω κ 65 [(0, .ref (ω.2.2.1 35)), (1, .int x1)] (v.toList ++ []) σ') : V ω κ 62 [(0, .ref (ω.2.2.1 35)), (1, .int x1)] [.int s2, .ref (ω.2.2.1 41), .ref (ω.2.2.1 35)] σ := by
  exact V_callV (d' := d - 1) (As := [.ref (ω.2.2.1 41), .int s2]) (rest := []) K.1 dX9_findRing_62 cw_X9_208 rfl rfl rfl (by omega) rfl (by simp [Value.category]) hM (fun v σ' h => kk v σ' h)
set_option maxRecDepth 20000 in
theorem R_X9_ever_0 {ω : WT} {κ : KT} {l : Launch} {d : Nat} {post : Option Value → St → Prop} {σ : St} {x1 : Int32}  (K : Cm ω κ l yX9_ever cX9_ever 2 d (some .int) post) (hdp : 1 ≤ d)
    (k1 : ¬ ((if (x1 < (0 : Int32)) then (0 : Int32) else (if ((1 : Int32) < x1) then (0 : Int32) else (1 : Int32))) = 0) → ¬ ((if ((σ.1 2245) ≤ 0) then (0 : Int32) else (1 : Int32)) = 0) → V ω κ 23 [(0, .ref (ω.2.2.1 35)), (1, .int x1)] [.ref (ω.2.2.1 35)] σ)
    (k2 : ¬ ((if (x1 < (0 : Int32)) then (0 : Int32) else (if ((1 : Int32) < x1) then (0 : Int32) else (1 : Int32))) = 0) → ((if ((σ.1 2245) ≤ 0) then (0 : Int32) else (1 : Int32)) = 0) → post (some (.int (-3 : Int32))) σ)
    (k3 : ((if (x1 < (0 : Int32)) then (0 : Int32) else (if ((1 : Int32) < x1) then (0 : Int32) else (1 : Int32))) = 0) → post (some (.int (-2 : Int32))) σ) :
    V ω κ 0 [(0, .ref (ω.2.2.1 35)), (1, .int x1)] [] σ := by
  refine V_iload_n 1 K.1 dX9_ever_0 rfl rfl ?_
  refine V_iconst (v := 0) K.1 dX9_ever_1 (by decide) ?_
  refine V_iconst (v := 1) K.1 dX9_ever_2 (by decide) ?_
  refine V_callS (d' := d - 1) (As := [.int x1, .int (0 : Int32), .int (1 : Int32)]) K.1 dX9_ever_3 cw_X9_87 rfl (by omega) rfl (by simp [Value.category]) (m_X9_within K.1.wf (by omega)) (go_I ?_)
  refine V_if_ne (tgt := 12) K.1 dX9_ever_6 (by decide) (fun c6 => ?_) (fun c6 => ?_)
  · refine V_aload_n 0 K.1 dX9_ever_12 rfl rfl ?_
    refine V_callV (d' := d - 1) (As := []) K.1 dX9_ever_13 cw_X9_146 rfl rfl rfl (by omega) rfl (by simp [Value.category]) (m_X9_isTown K.1.wf (by omega)) (go_I ?_)
    refine V_if_ne (tgt := 22) K.1 dX9_ever_16 (by decide) (fun c16 => ?_) (fun c16 => ?_)
    · refine V_aload_n 0 K.1 dX9_ever_22 rfl rfl ?_
      exact (k1 c6 c16)
    · refine V_bipush (v := -3) K.1 dX9_ever_19 (by decide) ?_
      exact V_iret K dX9_ever_21 (k2 c6 c16)
  · refine V_bipush (v := -2) K.1 dX9_ever_9 (by decide) ?_
    exact V_iret K dX9_ever_11 (k3 c6)
set_option maxRecDepth 20000 in
theorem R_X9_ever_26 {ω : WT} {κ : KT} {l : Launch} {d : Nat} {post : Option Value → St → Prop} {σ : St} {x1 : Int32}  (K : Cm ω κ l yX9_ever cX9_ever 2 d (some .int) post)
    (k2 : post (some (.int (if (x1 = 0) then (σ.1 2272) else (σ.1 2273)))) σ) :
    V ω κ 26 [(0, .ref (ω.2.2.1 35)), (1, .int x1)] [] σ := by
  refine V_iload_n 1 K.1 dX9_ever_26 rfl rfl ?_
  refine V_join (J := 41) (S := []) (v := .int (if (x1 = 0) then (σ.1 2272) else (σ.1 2273))) (fun hJ1 => ?_) ?_
  · refine V_if_ne (tgt := 37) K.1 dX9_ever_27 (by decide) (fun c27 => ?_) (fun c27 => ?_)
    · refine V_aload_n 0 K.1 dX9_ever_37 rfl rfl ?_
      refine V_get (v := .int (σ.1 2273)) K.1 dX9_ever_38 rfl rfl fw_X9_224 rfl rfl ?_
      exact V_top (if_neg c27) hJ1
    · refine V_aload_n 0 K.1 dX9_ever_30 rfl rfl ?_
      refine V_get (v := .int (σ.1 2272)) K.1 dX9_ever_31 rfl rfl fw_X9_221 rfl rfl ?_
      refine V_goto (tgt := 41) K.1 dX9_ever_34 (by decide) ?_
      exact V_top (if_pos c27) hJ1
  exact V_iret K dX9_ever_41 k2
set_option maxRecDepth 20000 in
theorem C_X9_ever_23 {ω : WT} {κ : KT} {l : Launch} {d : Nat} {post : Option Value → St → Prop} {σ : St} {x1 : Int32}  {post' : Option Value → St → Prop} (K : Cm ω κ l yX9_ever cX9_ever 2 d (some .int) post) (hdp : 1 ≤ d) (hM : Sp ω l yX9_findRing cX9_findRing 2 none (d - 1) [.ref (ω.2.2.1 35)] σ post')
    (kk : ∀ (v : Option Value) (σ' : St), post' v σ' → V ω κ 26 [(0, .ref (ω.2.2.1 35)), (1, .int x1)] (v.toList ++ []) σ') : V ω κ 23 [(0, .ref (ω.2.2.1 35)), (1, .int x1)] [.ref (ω.2.2.1 35)] σ := by
  exact V_callV (d' := d - 1) (As := []) (rest := []) K.1 dX9_ever_23 cw_X9_227 rfl rfl rfl (by omega) rfl (by simp [Value.category]) hM (fun v σ' h => kk v σ' h)
set_option maxRecDepth 20000 in
theorem R_X9_often_0 {ω : WT} {κ : KT} {l : Launch} {d : Nat} {post : Option Value → St → Prop} {σ : St} {x1 : Int32}  (K : Cm ω κ l yX9_often cX9_often 5 d (some .int) post) (hdp : 1 ≤ d)
    (k1 : ¬ ((if (x1 < 0) then (0 : Int32) else (if ((σ.1 2246) ≤ x1) then (0 : Int32) else (1 : Int32))) = 0) → V ω κ 12 [(0, .ref (ω.2.2.1 35))] [.int x1, .ref (ω.2.2.1 35)] σ)
    (k2 : ((if (x1 < 0) then (0 : Int32) else (if ((σ.1 2246) ≤ x1) then (0 : Int32) else (1 : Int32))) = 0) → post (some (.int (-1 : Int32))) σ) :
    V ω κ 0 [(0, .ref (ω.2.2.1 35)), (1, .int x1)] [] σ := by
  refine V_aload_n 0 K.1 dX9_often_0 rfl rfl ?_
  refine V_iload_n 1 K.1 dX9_often_1 rfl rfl ?_
  refine V_callV (d' := d - 1) (As := [.int x1]) K.1 dX9_often_2 cw_X9_143 rfl rfl rfl (by omega) rfl (by simp [Value.category]) (m_X9_isMatter K.1.wf (by omega)) (go_I ?_)
  refine V_if_ne (tgt := 10) K.1 dX9_often_5 (by decide) (fun c5 => ?_) (fun c5 => ?_)
  · refine V_aload_n 0 K.1 dX9_often_10 rfl rfl ?_
    refine V_iload_n 1 K.1 dX9_often_11 rfl rfl ?_
    exact V_sub [0] rfl (k1 c5)
  · refine V_iconst (v := -1) K.1 dX9_often_8 (by decide) ?_
    exact V_iret K dX9_often_9 (k2 c5)
set_option maxRecDepth 20000 in
theorem R_X9_often_15 {ω : WT} {κ : KT} {l : Launch} {d : Nat} {post : Option Value → St → Prop} {σ : St} {s0 : Int32}  (K : Cm ω κ l yX9_often cX9_often 5 d (some .int) post)
    (k1 : ¬ (s0 = (-9 : Int32)) → V ω κ 25 [(0, .ref (ω.2.2.1 35)), (2, .int s0)] [.ref (ω.2.2.1 35)] σ)
    (k2 : (s0 = (-9 : Int32)) → post (some (.int (0 : Int32))) σ) :
    V ω κ 15 [(0, .ref (ω.2.2.1 35))] [.int s0] σ := by
  refine V_istore_n (L' := [(0, .ref (ω.2.2.1 35)), (2, .int s0)]) K.1 dX9_often_15 rfl (by decide) rfl ?_
  refine V_iload_n 1 K.1 dX9_often_16 rfl rfl ?_
  refine V_bipush (v := -9) K.1 dX9_often_17 (by decide) ?_
  refine V_icmp_ne (tgt := 24) K.1 dX9_often_19 (by decide) (fun c19 => ?_) (fun c19 => ?_)
  · refine V_aload_n 0 K.1 dX9_often_24 rfl rfl ?_
    exact (k1 c19)
  · refine V_iconst (v := 0) K.1 dX9_often_22 (by decide) ?_
    exact V_iret K dX9_often_23 (k2 c19)
set_option maxRecDepth 20000 in
theorem R_X9_often_28 {ω : WT} {κ : KT} {l : Launch} {d : Nat} {post : Option Value → St → Prop} {σ : St} {x2 : Int32}  (K : Cm ω κ l yX9_often cX9_often 5 d (some .int) post)
    (k1 : V ω κ 33 [(0, .ref (ω.2.2.1 35)), (2, .int x2), (3, .int (0 : Int32)), (4, .int (0 : Int32))] [] σ) :
    V ω κ 28 [(0, .ref (ω.2.2.1 35)), (2, .int x2)] [] σ := by
  refine V_iconst (v := 0) K.1 dX9_often_28 (by decide) ?_
  refine V_istore_n (L' := [(0, .ref (ω.2.2.1 35)), (2, .int x2), (3, .int (0 : Int32))]) K.1 dX9_often_29 rfl (by decide) rfl ?_
  refine V_iconst (v := 0) K.1 dX9_often_30 (by decide) ?_
  refine V_istore (L' := [(0, .ref (ω.2.2.1 35)), (2, .int x2), (3, .int (0 : Int32)), (4, .int (0 : Int32))]) K.1 dX9_often_31 (by decide) rfl ?_
  exact k1
set_option maxRecDepth 20000 in
theorem R_X9_often_33 {ω : WT} {κ : KT} {l : Launch} {d : Nat} {post : Option Value → St → Prop} {σ : St} {x2 x3 x4 : Int32}  (K : Cm ω κ l yX9_often cX9_often 5 d (some .int) post)
    (k1 : ((σ.1 2273) ≤ x4) → post (some (.int x3)) σ)
    (k2 : ¬ ((σ.1 2273) ≤ x4) → V ω κ 51 [(0, .ref (ω.2.2.1 35)), (2, .int x2), (3, .int x3), (4, .int x4)] [.int (σ.1 2251), .ref (ω.2.2.1 41), .ref (ω.2.2.1 35)] σ) :
    V ω κ 33 [(0, .ref (ω.2.2.1 35)), (2, .int x2), (3, .int x3), (4, .int x4)] [] σ := by
  refine V_iload 3 K.1 dX9_often_33 rfl ?_
  refine V_aload_n 0 K.1 dX9_often_35 rfl rfl ?_
  refine V_get (v := .int (σ.1 2273)) K.1 dX9_often_36 rfl rfl fw_X9_224 rfl rfl ?_
  refine V_icmp_ge (tgt := 78) K.1 dX9_often_39 (by decide) (fun c39 => ?_) (fun c39 => ?_)
  · refine V_iload_n 2 K.1 dX9_often_78 rfl rfl ?_
    exact V_iret K dX9_often_79 (k1 c39)
  · refine V_aload_n 0 K.1 dX9_often_42 rfl rfl ?_
    refine V_aload_n 0 K.1 dX9_often_43 rfl rfl ?_
    refine V_get (v := .ref (ω.2.2.1 41)) K.1 dX9_often_44 rfl rfl fw_X9_25 rfl rfl ?_
    refine V_aload_n 0 K.1 dX9_often_47 rfl rfl ?_
    refine V_get (v := .int (σ.1 2251)) K.1 dX9_often_48 rfl rfl fw_X9_130 rfl rfl ?_
    exact (k2 c39)
set_option maxRecDepth 20000 in
theorem R_X9_often_54 {ω : WT} {κ : KT} {l : Launch} {d : Nat} {post : Option Value → St → Prop} {σ : St} {x2 x3 x4 : Int32}  (K : Cm ω κ l yX9_often cX9_often 5 d (some .int) post)
    (b1 : vp_in x2 6)
    (k3 : V ω κ 33 [(0, .ref (ω.2.2.1 35)), (2, .int x2), (3, .int (x3 + (if ((σ.2.1 46 (x2).toNatClampNeg) = (1 : Int32)) then (1 : Int32) else (0 : Int32)))), (4, .int (x4 + 1))] [] σ) :
    V ω κ 54 [(0, .ref (ω.2.2.1 35)), (2, .int x2), (3, .int x3), (4, .int x4)] [] σ := by
  refine V_iload_n 2 K.1 dX9_often_54 rfl rfl ?_
  refine V_aload_n 0 K.1 dX9_often_55 rfl rfl ?_
  refine V_get (v := .ref (ω.2.2.1 46)) K.1 dX9_often_56 rfl rfl fw_X9_40 rfl rfl ?_
  refine V_iload_n 1 K.1 dX9_often_59 rfl rfl ?_
  refine V_iaload (v := (σ.2.1 46 (x2).toNatClampNeg)) K.1 dX9_often_60 rfl b1 rfl ?_
  refine V_iconst (v := 1) K.1 dX9_often_61 (by decide) ?_
  refine V_join (J := 70) (S := [.int x3]) (v := .int (if ((σ.2.1 46 (x2).toNatClampNeg) = (1 : Int32)) then (1 : Int32) else (0 : Int32))) (fun hJ2 => ?_) ?_
  · refine V_icmp_ne (tgt := 69) K.1 dX9_often_62 (by decide) (fun c62 => ?_) (fun c62 => ?_)
    · refine V_iconst (v := 0) K.1 dX9_often_69 (by decide) ?_
      exact V_top (if_neg c62) hJ2
    · refine V_iconst (v := 1) K.1 dX9_often_65 (by decide) ?_
      refine V_goto (tgt := 70) K.1 dX9_often_66 (by decide) ?_
      exact V_top (if_pos c62) hJ2
  refine V_iadd K.1 dX9_often_70 ?_
  refine V_istore_n (L' := [(0, .ref (ω.2.2.1 35)), (2, .int x2), (3, .int (x3 + (if ((σ.2.1 46 (x2).toNatClampNeg) = (1 : Int32)) then (1 : Int32) else (0 : Int32)))), (4, .int x4)]) K.1 dX9_often_71 rfl (by decide) rfl ?_
  refine V_iinc (v := (x4 + 1)) (L' := [(0, .ref (ω.2.2.1 35)), (2, .int x2), (3, .int (x3 + (if ((σ.2.1 46 (x2).toNatClampNeg) = (1 : Int32)) then (1 : Int32) else (0 : Int32)))), (4, .int (x4 + 1))]) 3 K.1 dX9_often_72 rfl rfl (by decide) rfl ?_
  refine V_goto (tgt := 33) K.1 dX9_often_75 (by decide) ?_
  exact k3
set_option maxRecDepth 20000 in
theorem C_X9_often_12 {ω : WT} {κ : KT} {l : Launch} {d : Nat} {post : Option Value → St → Prop} {σ : St} {s1 : Int32}  {post' : Option Value → St → Prop} (K : Cm ω κ l yX9_often cX9_often 5 d (some .int) post) (hdp : 1 ≤ d) (hM : Sp ω l yX9_placeOf cX9_placeOf 3 (some .int) (d - 1) [.ref (ω.2.2.1 35), .int s1] σ post')
    (kk : ∀ (v : Option Value) (σ' : St), post' v σ' → V ω κ 15 [(0, .ref (ω.2.2.1 35))] (v.toList ++ []) σ') : V ω κ 12 [(0, .ref (ω.2.2.1 35))] [.int s1, .ref (ω.2.2.1 35)] σ := by
  exact V_callV (d' := d - 1) (As := [.int s1]) (rest := []) K.1 dX9_often_12 cw_X9_215 rfl rfl rfl (by omega) rfl (by simp [Value.category]) hM (fun v σ' h => kk v σ' h)
set_option maxRecDepth 20000 in
theorem C_X9_often_25 {ω : WT} {κ : KT} {l : Launch} {d : Nat} {post : Option Value → St → Prop} {σ : St} {x2 : Int32}  {post' : Option Value → St → Prop} (K : Cm ω κ l yX9_often cX9_often 5 d (some .int) post) (hdp : 1 ≤ d) (hM : Sp ω l yX9_findRing cX9_findRing 2 none (d - 1) [.ref (ω.2.2.1 35)] σ post')
    (kk : ∀ (v : Option Value) (σ' : St), post' v σ' → V ω κ 28 [(0, .ref (ω.2.2.1 35)), (2, .int x2)] (v.toList ++ []) σ') : V ω κ 25 [(0, .ref (ω.2.2.1 35)), (2, .int x2)] [.ref (ω.2.2.1 35)] σ := by
  exact V_callV (d' := d - 1) (As := []) (rest := []) K.1 dX9_often_25 cw_X9_227 rfl rfl rfl (by omega) rfl (by simp [Value.category]) hM (fun v σ' h => kk v σ' h)
set_option maxRecDepth 20000 in
theorem C_X9_often_51 {ω : WT} {κ : KT} {l : Launch} {d : Nat} {post : Option Value → St → Prop} {σ : St} {x2 x3 x4 s2 : Int32}  {post' : Option Value → St → Prop} (K : Cm ω κ l yX9_often cX9_often 5 d (some .int) post) (hdp : 1 ≤ d) (hM : Sp ω l yX9_goRun cX9_goRun 4 none (d - 1) [.ref (ω.2.2.1 35), .ref (ω.2.2.1 41), .int s2] σ post')
    (kk : ∀ (v : Option Value) (σ' : St), post' v σ' → V ω κ 54 [(0, .ref (ω.2.2.1 35)), (2, .int x2), (3, .int x3), (4, .int x4)] (v.toList ++ []) σ') : V ω κ 51 [(0, .ref (ω.2.2.1 35)), (2, .int x2), (3, .int x3), (4, .int x4)] [.int s2, .ref (ω.2.2.1 41), .ref (ω.2.2.1 35)] σ := by
  exact V_callV (d' := d - 1) (As := [.ref (ω.2.2.1 41), .int s2]) (rest := []) K.1 dX9_often_51 cw_X9_208 rfl rfl rfl (by omega) rfl (by simp [Value.category]) hM (fun v σ' h => kk v σ' h)
