set_option maxRecDepth 20000 in
theorem R_X1_reach_0 {ω : WT} {κ : KT} {l : Launch} {d : Nat} {post : Option Value → St → Prop} {σ : St} {x1 x2 : Int32}  (K : Cm ω κ l yX1_reach cX1_reach 4 d none post) (hdp : 2 ≤ d)
    (b1 : vp_in (if ((σ.1 898) = (2 : Int32)) then ((((x1 / (256 : Int32)) * (2 : Int32)) * (8 : Int32)) + (F_bc (x1 &&& (255 : Int32)))) else (x1 &&& (255 : Int32))) 256)
    (k2 : ((if ((σ.2.1 27 ((if ((σ.1 898) = (2 : Int32)) then ((((x1 / (256 : Int32)) * (2 : Int32)) * (8 : Int32)) + (F_bc (x1 &&& (255 : Int32)))) else (x1 &&& (255 : Int32)))).toNatClampNeg) = (-1 : Int32)) then (1 : Int32) else (if ((σ.2.1 27 ((if ((σ.1 898) = (2 : Int32)) then ((((x1 / (256 : Int32)) * (2 : Int32)) * (8 : Int32)) + (F_bc (x1 &&& (255 : Int32)))) else (x1 &&& (255 : Int32)))).toNatClampNeg) ≤ x2) then (0 : Int32) else (1 : Int32))) = 0) → post none σ)
    (b3 : ¬ ((if ((σ.2.1 27 ((if ((σ.1 898) = (2 : Int32)) then ((((x1 / (256 : Int32)) * (2 : Int32)) * (8 : Int32)) + (F_bc (x1 &&& (255 : Int32)))) else (x1 &&& (255 : Int32)))).toNatClampNeg) = (-1 : Int32)) then (1 : Int32) else (if ((σ.2.1 27 ((if ((σ.1 898) = (2 : Int32)) then ((((x1 / (256 : Int32)) * (2 : Int32)) * (8 : Int32)) + (F_bc (x1 &&& (255 : Int32)))) else (x1 &&& (255 : Int32)))).toNatClampNeg) ≤ x2) then (0 : Int32) else (1 : Int32))) = 0) → vp_in (if ((σ.1 898) = (2 : Int32)) then ((((x1 / (256 : Int32)) * (2 : Int32)) * (8 : Int32)) + (F_bc (x1 &&& (255 : Int32)))) else (x1 &&& (255 : Int32))) 256)
    (b4 : ¬ ((if ((σ.2.1 27 ((if ((σ.1 898) = (2 : Int32)) then ((((x1 / (256 : Int32)) * (2 : Int32)) * (8 : Int32)) + (F_bc (x1 &&& (255 : Int32)))) else (x1 &&& (255 : Int32)))).toNatClampNeg) = (-1 : Int32)) then (1 : Int32) else (if ((σ.2.1 27 ((if ((σ.1 898) = (2 : Int32)) then ((((x1 / (256 : Int32)) * (2 : Int32)) * (8 : Int32)) + (F_bc (x1 &&& (255 : Int32)))) else (x1 &&& (255 : Int32)))).toNatClampNeg) ≤ x2) then (0 : Int32) else (1 : Int32))) = 0) → vp_in (if ((σ.1 898) = (2 : Int32)) then ((((x1 / (256 : Int32)) * (2 : Int32)) * (8 : Int32)) + (F_bc (x1 &&& (255 : Int32)))) else (x1 &&& (255 : Int32))) 256)
    (k5 : ¬ ((if ((σ.2.1 27 ((if ((σ.1 898) = (2 : Int32)) then ((((x1 / (256 : Int32)) * (2 : Int32)) * (8 : Int32)) + (F_bc (x1 &&& (255 : Int32)))) else (x1 &&& (255 : Int32)))).toNatClampNeg) = (-1 : Int32)) then (1 : Int32) else (if ((σ.2.1 27 ((if ((σ.1 898) = (2 : Int32)) then ((((x1 / (256 : Int32)) * (2 : Int32)) * (8 : Int32)) + (F_bc (x1 &&& (255 : Int32)))) else (x1 &&& (255 : Int32)))).toNatClampNeg) ≤ x2) then (0 : Int32) else (1 : Int32))) = 0) → post none (pA (pA σ 27 ((if ((σ.1 898) = (2 : Int32)) then ((((x1 / (256 : Int32)) * (2 : Int32)) * (8 : Int32)) + (F_bc (x1 &&& (255 : Int32)))) else (x1 &&& (255 : Int32)))).toNatClampNeg x2) 26 ((if ((σ.1 898) = (2 : Int32)) then ((((x1 / (256 : Int32)) * (2 : Int32)) * (8 : Int32)) + (F_bc (x1 &&& (255 : Int32)))) else (x1 &&& (255 : Int32)))).toNatClampNeg x1)) :
    V ω κ 0 [(0, .ref (ω.2.2.1 23)), (1, .int x1), (2, .int x2)] [] σ := by
  refine V_aload_n 0 K.1 dX1_reach_0 rfl rfl ?_
  refine V_get (v := .ref (ω.2.2.1 14)) K.1 dX1_reach_1 rfl rfl fw_X1_28 rfl rfl ?_
  refine V_iload_n 1 K.1 dX1_reach_4 rfl rfl ?_
  refine V_callV (d' := d - 1) (As := [.int x1]) K.1 dX1_reach_5 cw_X1_44 rfl rfl rfl (by omega) rfl (by simp [Value.category]) (m_X2_slotOf K.1.wf (by omega)) (go_I ?_)
  refine V_istore_n (L' := [(0, .ref (ω.2.2.1 23)), (1, .int x1), (2, .int x2), (3, .int (if ((σ.1 898) = (2 : Int32)) then ((((x1 / (256 : Int32)) * (2 : Int32)) * (8 : Int32)) + (F_bc (x1 &&& (255 : Int32)))) else (x1 &&& (255 : Int32))))]) K.1 dX1_reach_8 rfl (by decide) rfl ?_
  refine V_iload_n 2 K.1 dX1_reach_9 rfl rfl ?_
  refine V_aload_n 0 K.1 dX1_reach_10 rfl rfl ?_
  refine V_get (v := .ref (ω.2.2.1 27)) K.1 dX1_reach_11 rfl rfl fw_X1_21 rfl rfl ?_
  refine V_iload_n 3 K.1 dX1_reach_14 rfl rfl ?_
  refine V_iaload (v := (σ.2.1 27 ((if ((σ.1 898) = (2 : Int32)) then ((((x1 / (256 : Int32)) * (2 : Int32)) * (8 : Int32)) + (F_bc (x1 &&& (255 : Int32)))) else (x1 &&& (255 : Int32)))).toNatClampNeg)) K.1 dX1_reach_15 rfl b1 rfl ?_
  refine V_callS (d' := d - 1) (As := [.int x2, .int (σ.2.1 27 ((if ((σ.1 898) = (2 : Int32)) then ((((x1 / (256 : Int32)) * (2 : Int32)) * (8 : Int32)) + (F_bc (x1 &&& (255 : Int32)))) else (x1 &&& (255 : Int32)))).toNatClampNeg)]) K.1 dX1_reach_16 cw_X1_82 rfl (by omega) rfl (by simp [Value.category]) (m_X1_isFewer K.1.wf (by omega)) (go_I ?_)
  refine V_if_eq (tgt := 36) K.1 dX1_reach_19 (by decide) (fun c19 => ?_) (fun c19 => ?_)
  · exact V_vret K dX1_reach_36 (k2 c19)
  · refine V_aload_n 0 K.1 dX1_reach_22 rfl rfl ?_
    refine V_get (v := .ref (ω.2.2.1 27)) K.1 dX1_reach_23 rfl rfl fw_X1_21 rfl rfl ?_
    refine V_iload_n 3 K.1 dX1_reach_26 rfl rfl ?_
    refine V_iload_n 2 K.1 dX1_reach_27 rfl rfl ?_
    refine V_iastore K.1 dX1_reach_28 rfl (b3 c19) ?_
    refine V_aload_n 0 K.1 dX1_reach_29 rfl rfl ?_
    refine V_get (v := .ref (ω.2.2.1 26)) K.1 dX1_reach_30 rfl rfl fw_X1_18 rfl rfl ?_
    refine V_iload_n 3 K.1 dX1_reach_33 rfl rfl ?_
    refine V_iload_n 1 K.1 dX1_reach_34 rfl rfl ?_
    refine V_iastore K.1 dX1_reach_35 rfl (b4 c19) ?_
    exact V_vret K dX1_reach_36 (k5 c19)
set_option maxRecDepth 20000 in
theorem R_X1_voteFromAll_0 {ω : WT} {κ : KT} {l : Launch} {d : Nat} {post : Option Value → St → Prop} {σ : St} {x1 x2 x3 : Int32}  (K : Cm ω κ l yX1_voteFromAll cX1_voteFromAll 11 d (some .int) post) (hdp : 1 ≤ d)
    (k1 : V ω κ 14 [(0, .ref (ω.2.2.1 23)), (1, .int x1), (2, .int x2), (3, .int x3), (4, .int (-1 : Int32)), (5, .int (0 : Int32))] [] (pF σ 27 (fillF (σ.2.1 27) (-1 : Int32) 256))) :
    V ω κ 0 [(0, .ref (ω.2.2.1 23)), (1, .int x1), (2, .int x2), (3, .int x3)] [] σ := by
  refine V_aload_n 0 K.1 dX1_voteFromAll_0 rfl rfl ?_
  refine V_get (v := .ref (ω.2.2.1 27)) K.1 dX1_voteFromAll_1 rfl rfl fw_X1_21 rfl rfl ?_
  refine V_iconst (v := -1) K.1 dX1_voteFromAll_4 (by decide) ?_
  refine V_callS (d' := d - 1) (As := [.ref (ω.2.2.1 27), .int (-1 : Int32)]) K.1 dX1_voteFromAll_5 cw_X1_32 rfl (by omega) rfl (by simp [Value.category]) (m_J7_fill_53178 rfl K.1.wf (by omega)) (go_V ?_)
  refine V_iconst (v := -1) K.1 dX1_voteFromAll_8 (by decide) ?_
  refine V_istore (L' := [(0, .ref (ω.2.2.1 23)), (1, .int x1), (2, .int x2), (3, .int x3), (4, .int (-1 : Int32))]) K.1 dX1_voteFromAll_9 (by decide) rfl ?_
  refine V_iconst (v := 0) K.1 dX1_voteFromAll_11 (by decide) ?_
  refine V_istore (L' := [(0, .ref (ω.2.2.1 23)), (1, .int x1), (2, .int x2), (3, .int x3), (4, .int (-1 : Int32)), (5, .int (0 : Int32))]) K.1 dX1_voteFromAll_12 (by decide) rfl ?_
  exact k1
set_option maxRecDepth 20000 in
theorem R_X1_voteFromAll_14 {ω : WT} {κ : KT} {l : Launch} {d : Nat} {post : Option Value → St → Prop} {σ : St} {x1 x2 x3 x4 x5 : Int32}  (K : Cm ω κ l yX1_voteFromAll cX1_voteFromAll 11 d (some .int) post) (hdp : 2 ≤ d)
    (q1 : ((256 : Int32) ≤ x5) → ¬ (0 : Int32) < 0)
    (q2 : ((256 : Int32) ≤ x5) → ¬ (0 : Int32) < 0)
    (q3 : ((256 : Int32) ≤ x5) → ¬ (256 : Int32) < 0)
    (q4 : ((256 : Int32) ≤ x5) → ((0 : Int32)).toNatClampNeg + ((256 : Int32)).toNatClampNeg ≤ 256)
    (q5 : ((256 : Int32) ≤ x5) → ((0 : Int32)).toNatClampNeg + ((256 : Int32)).toNatClampNeg ≤ 256)
    (q6 : ((256 : Int32) ≤ x5) → ¬ (0 : Int32) < 0)
    (q7 : ((256 : Int32) ≤ x5) → ¬ (0 : Int32) < 0)
    (q8 : ((256 : Int32) ≤ x5) → ¬ (256 : Int32) < 0)
    (q9 : ((256 : Int32) ≤ x5) → ((0 : Int32)).toNatClampNeg + ((256 : Int32)).toNatClampNeg ≤ 256)
    (q10 : ((256 : Int32) ≤ x5) → ((0 : Int32)).toNatClampNeg + ((256 : Int32)).toNatClampNeg ≤ 256)
    (k11 : ((256 : Int32) ≤ x5) → post (some (.int x4)) (pF (pF σ 24 (va_cpy (σ.2.1 26) (σ.2.1 24) ((0 : Int32)).toNatClampNeg ((0 : Int32)).toNatClampNeg ((256 : Int32)).toNatClampNeg)) 25 (va_cpy ((pF σ 24 (va_cpy (σ.2.1 26) (σ.2.1 24) ((0 : Int32)).toNatClampNeg ((0 : Int32)).toNatClampNeg ((256 : Int32)).toNatClampNeg)).2.1 27) ((pF σ 24 (va_cpy (σ.2.1 26) (σ.2.1 24) ((0 : Int32)).toNatClampNeg ((0 : Int32)).toNatClampNeg ((256 : Int32)).toNatClampNeg)).2.1 25) ((0 : Int32)).toNatClampNeg ((0 : Int32)).toNatClampNeg ((256 : Int32)).toNatClampNeg)))
    (b12 : ¬ ((256 : Int32) ≤ x5) → vp_in x5 256)
    (k13 : ¬ ((256 : Int32) ≤ x5) → ((σ.2.1 25 (x5).toNatClampNeg) = (-1 : Int32)) → V ω κ 14 [(0, .ref (ω.2.2.1 23)), (1, .int x1), (2, .int x2), (3, .int x3), (4, .int x4), (5, .int (x5 + 1))] [] σ)
    (b14 : ¬ ((256 : Int32) ≤ x5) → ¬ ((σ.2.1 25 (x5).toNatClampNeg) = (-1 : Int32)) → vp_in x5 256)
    (k15 : ¬ ((256 : Int32) ≤ x5) → ¬ ((σ.2.1 25 (x5).toNatClampNeg) = (-1 : Int32)) → V ω κ 54 [(0, .ref (ω.2.2.1 23)), (1, .int x1), (2, .int x2), (3, .int x3), (4, .int x4), (5, .int x5), (6, .int (x2 &&& ((σ.2.1 24 (x5).toNatClampNeg) &&& (255 : Int32)))), (7, .int (x2 &&& ((σ.2.1 24 (x5).toNatClampNeg) &&& (255 : Int32)))), (8, .int (0 : Int32))] [] σ) :
    V ω κ 14 [(0, .ref (ω.2.2.1 23)), (1, .int x1), (2, .int x2), (3, .int x3), (4, .int x4), (5, .int x5)] [] σ := by
  refine V_iload 5 K.1 dX1_voteFromAll_14 rfl ?_
  refine V_sipush (v := 256) K.1 dX1_voteFromAll_16 (by decide) ?_
  refine V_icmp_ge (tgt := 160) K.1 dX1_voteFromAll_19 (by decide) (fun c19 => ?_) (fun c19 => ?_)
  · refine V_aload_n 0 K.1 dX1_voteFromAll_160 rfl rfl ?_
    refine V_get (v := .ref (ω.2.2.1 26)) K.1 dX1_voteFromAll_161 rfl rfl fw_X1_18 rfl rfl ?_
    refine V_iconst (v := 0) K.1 dX1_voteFromAll_164 (by decide) ?_
    refine V_aload_n 0 K.1 dX1_voteFromAll_165 rfl rfl ?_
    refine V_get (v := .ref (ω.2.2.1 24)) K.1 dX1_voteFromAll_166 rfl rfl fw_X1_9 rfl rfl ?_
    refine V_iconst (v := 0) K.1 dX1_voteFromAll_169 (by decide) ?_
    refine V_sipush (v := 256) K.1 dX1_voteFromAll_170 (by decide) ?_
    refine V_copyI K.1 dX1_voteFromAll_173 cp_X1_86 rfl rfl (q1 c19) (q2 c19) (q3 c19) (q4 c19) (q5 c19) (by omega) (by decide) ?_
    refine V_aload_n 0 K.1 dX1_voteFromAll_176 rfl rfl ?_
    refine V_get (v := .ref (ω.2.2.1 27)) K.1 dX1_voteFromAll_177 rfl rfl fw_X1_21 rfl rfl ?_
    refine V_iconst (v := 0) K.1 dX1_voteFromAll_180 (by decide) ?_
    refine V_aload_n 0 K.1 dX1_voteFromAll_181 rfl rfl ?_
    refine V_get (v := .ref (ω.2.2.1 25)) K.1 dX1_voteFromAll_182 rfl rfl fw_X1_15 rfl rfl ?_
    refine V_iconst (v := 0) K.1 dX1_voteFromAll_185 (by decide) ?_
    refine V_sipush (v := 256) K.1 dX1_voteFromAll_186 (by decide) ?_
    refine V_copyI K.1 dX1_voteFromAll_189 cp_X1_86 rfl rfl (q6 c19) (q7 c19) (q8 c19) (q9 c19) (q10 c19) (by omega) (by decide) ?_
    refine V_iload 4 K.1 dX1_voteFromAll_192 rfl ?_
    exact V_iret K dX1_voteFromAll_194 (k11 c19)
  · refine V_aload_n 0 K.1 dX1_voteFromAll_22 rfl rfl ?_
    refine V_get (v := .ref (ω.2.2.1 25)) K.1 dX1_voteFromAll_23 rfl rfl fw_X1_15 rfl rfl ?_
    refine V_iload 5 K.1 dX1_voteFromAll_26 rfl ?_
    refine V_iaload (v := (σ.2.1 25 (x5).toNatClampNeg)) K.1 dX1_voteFromAll_28 rfl (b12 c19) rfl ?_
    refine V_iconst (v := -1) K.1 dX1_voteFromAll_29 (by decide) ?_
    refine V_icmp_eq (tgt := 154) K.1 dX1_voteFromAll_30 (by decide) (fun c30 => ?_) (fun c30 => ?_)
    · refine V_iinc (v := (x5 + 1)) (L' := [(0, .ref (ω.2.2.1 23)), (1, .int x1), (2, .int x2), (3, .int x3), (4, .int x4), (5, .int (x5 + 1))]) 5 K.1 dX1_voteFromAll_154 rfl rfl (by decide) rfl ?_
      refine V_goto (tgt := 14) K.1 dX1_voteFromAll_157 (by decide) ?_
      exact (k13 c19 c30)
    · refine V_iload_n 2 K.1 dX1_voteFromAll_33 rfl rfl ?_
      refine V_aload_n 0 K.1 dX1_voteFromAll_34 rfl rfl ?_
      refine V_get (v := .ref (ω.2.2.1 24)) K.1 dX1_voteFromAll_35 rfl rfl fw_X1_9 rfl rfl ?_
      refine V_iload 5 K.1 dX1_voteFromAll_38 rfl ?_
      refine V_iaload (v := (σ.2.1 24 (x5).toNatClampNeg)) K.1 dX1_voteFromAll_40 rfl (b14 c19 c30) rfl ?_
      refine V_callS (d' := d - 1) (As := [.int (σ.2.1 24 (x5).toNatClampNeg)]) K.1 dX1_voteFromAll_41 cw_X1_64 rfl (by omega) rfl (by simp [Value.category]) (m_X2_sittingAt K.1.wf (by omega)) (go_I ?_)
      refine V_iand K.1 dX1_voteFromAll_44 ?_
      refine V_istore (L' := [(0, .ref (ω.2.2.1 23)), (1, .int x1), (2, .int x2), (3, .int x3), (4, .int x4), (5, .int x5), (6, .int (x2 &&& ((σ.2.1 24 (x5).toNatClampNeg) &&& (255 : Int32))))]) K.1 dX1_voteFromAll_45 (by decide) rfl ?_
      refine V_iload 6 K.1 dX1_voteFromAll_47 rfl ?_
      refine V_istore (L' := [(0, .ref (ω.2.2.1 23)), (1, .int x1), (2, .int x2), (3, .int x3), (4, .int x4), (5, .int x5), (6, .int (x2 &&& ((σ.2.1 24 (x5).toNatClampNeg) &&& (255 : Int32)))), (7, .int (x2 &&& ((σ.2.1 24 (x5).toNatClampNeg) &&& (255 : Int32))))]) K.1 dX1_voteFromAll_49 (by decide) rfl ?_
      refine V_iconst (v := 0) K.1 dX1_voteFromAll_51 (by decide) ?_
      refine V_istore (L' := [(0, .ref (ω.2.2.1 23)), (1, .int x1), (2, .int x2), (3, .int x3), (4, .int x4), (5, .int x5), (6, .int (x2 &&& ((σ.2.1 24 (x5).toNatClampNeg) &&& (255 : Int32)))), (7, .int (x2 &&& ((σ.2.1 24 (x5).toNatClampNeg) &&& (255 : Int32)))), (8, .int (0 : Int32))]) K.1 dX1_voteFromAll_52 (by decide) rfl ?_
      exact (k15 c19 c30)
set_option maxRecDepth 20000 in
theorem R_X1_voteFromAll_54 {ω : WT} {κ : KT} {l : Launch} {d : Nat} {post : Option Value → St → Prop} {σ : St} {x1 x2 x3 x4 x5 x6 x7 x8 : Int32}  (K : Cm ω κ l yX1_voteFromAll cX1_voteFromAll 11 d (some .int) post) (hdp : 1 ≤ d)
    (k1 : ((8 : Int32) ≤ x8) → V ω κ 14 [(0, .ref (ω.2.2.1 23)), (1, .int x1), (2, .int x2), (3, .int x3), (4, .int x4), (5, .int (x5 + 1))] [] σ)
    (b2 : ¬ ((8 : Int32) ≤ x8) → vp_in x5 256)
    (b3 : ¬ ((8 : Int32) ≤ x8) → vp_in x5 256)
    (k4 : ¬ ((8 : Int32) ≤ x8) → V ω κ 93 [(0, .ref (ω.2.2.1 23)), (1, .int x1), (2, .int x2), (3, .int x3), (4, .int x4), (5, .int x5), (6, .int x6), (7, .int x7), (8, .int x8), (9, .int ((σ.2.1 25 (x5).toNatClampNeg) + (F_bc x7)))] [.int x6, .int (x1 ^^^ x7), .int (σ.2.1 24 (x5).toNatClampNeg), .ref (ω.2.2.1 14)] σ) :
    V ω κ 54 [(0, .ref (ω.2.2.1 23)), (1, .int x1), (2, .int x2), (3, .int x3), (4, .int x4), (5, .int x5), (6, .int x6), (7, .int x7), (8, .int x8)] [] σ := by
  refine V_iload 8 K.1 dX1_voteFromAll_54 rfl ?_
  refine V_bipush (v := 8) K.1 dX1_voteFromAll_56 (by decide) ?_
  refine V_icmp_ge (tgt := 154) K.1 dX1_voteFromAll_58 (by decide) (fun c58 => ?_) (fun c58 => ?_)
  · refine V_iinc (v := (x5 + 1)) (L' := [(0, .ref (ω.2.2.1 23)), (1, .int x1), (2, .int x2), (3, .int x3), (4, .int x4), (5, .int (x5 + 1)), (6, .int x6), (7, .int x7), (8, .int x8)]) 5 K.1 dX1_voteFromAll_154 rfl rfl (by decide) rfl ?_
    refine V_goto (tgt := 14) K.1 dX1_voteFromAll_157 (by decide) ?_
    exact V_sub [0, 1, 2, 3, 4, 5] rfl (k1 c58)
  · refine V_aload_n 0 K.1 dX1_voteFromAll_61 rfl rfl ?_
    refine V_get (v := .ref (ω.2.2.1 25)) K.1 dX1_voteFromAll_62 rfl rfl fw_X1_15 rfl rfl ?_
    refine V_iload 5 K.1 dX1_voteFromAll_65 rfl ?_
    refine V_iaload (v := (σ.2.1 25 (x5).toNatClampNeg)) K.1 dX1_voteFromAll_67 rfl (b2 c58) rfl ?_
    refine V_iload 7 K.1 dX1_voteFromAll_68 rfl ?_
    refine V_callS (d' := d - 1) (As := [.int x7]) K.1 dX1_voteFromAll_70 cw_X1_67 rfl (by omega) rfl (by simp [Value.category]) (m_J6_bitCount_0f7a4 K.1.wf (by omega)) (go_I ?_)
    refine V_iadd K.1 dX1_voteFromAll_73 ?_
    refine V_istore (L' := [(0, .ref (ω.2.2.1 23)), (1, .int x1), (2, .int x2), (3, .int x3), (4, .int x4), (5, .int x5), (6, .int x6), (7, .int x7), (8, .int x8), (9, .int ((σ.2.1 25 (x5).toNatClampNeg) + (F_bc x7)))]) K.1 dX1_voteFromAll_74 (by decide) rfl ?_
    refine V_aload_n 0 K.1 dX1_voteFromAll_76 rfl rfl ?_
    refine V_get (v := .ref (ω.2.2.1 14)) K.1 dX1_voteFromAll_77 rfl rfl fw_X1_28 rfl rfl ?_
    refine V_aload_n 0 K.1 dX1_voteFromAll_80 rfl rfl ?_
    refine V_get (v := .ref (ω.2.2.1 24)) K.1 dX1_voteFromAll_81 rfl rfl fw_X1_9 rfl rfl ?_
    refine V_iload 5 K.1 dX1_voteFromAll_84 rfl ?_
    refine V_iaload (v := (σ.2.1 24 (x5).toNatClampNeg)) K.1 dX1_voteFromAll_86 rfl (b3 c58) rfl ?_
    refine V_iload_n 1 K.1 dX1_voteFromAll_87 rfl rfl ?_
    refine V_iload 7 K.1 dX1_voteFromAll_88 rfl ?_
    refine V_ixor K.1 dX1_voteFromAll_90 ?_
    refine V_iload 6 K.1 dX1_voteFromAll_91 rfl ?_
    exact (k4 c58)
set_option maxRecDepth 20000 in
theorem R_X1_voteFromAll_96 {ω : WT} {κ : KT} {l : Launch} {d : Nat} {post : Option Value → St → Prop} {σ : St} {x1 x2 x3 x4 x5 x6 x7 x8 x9 s0 : Int32}  (K : Cm ω κ l yX1_voteFromAll cX1_voteFromAll 11 d (some .int) post)
    (k1 : V ω κ 103 [(0, .ref (ω.2.2.1 23)), (1, .int x1), (2, .int x2), (3, .int x3), (4, .int x4), (5, .int x5), (6, .int x6), (7, .int x7), (8, .int x8), (9, .int x9)] [.int x9, .int s0, .ref (ω.2.2.1 23)] σ) :
    V ω κ 96 [(0, .ref (ω.2.2.1 23)), (1, .int x1), (2, .int x2), (3, .int x3), (4, .int x4), (5, .int x5), (6, .int x6), (7, .int x7), (8, .int x8), (9, .int x9)] [.int s0] σ := by
  refine V_istore (L' := [(0, .ref (ω.2.2.1 23)), (1, .int x1), (2, .int x2), (3, .int x3), (4, .int x4), (5, .int x5), (6, .int x6), (7, .int x7), (8, .int x8), (9, .int x9), (10, .int s0)]) K.1 dX1_voteFromAll_96 (by decide) rfl ?_
  refine V_aload_n 0 K.1 dX1_voteFromAll_98 rfl rfl ?_
  refine V_iload 10 K.1 dX1_voteFromAll_99 rfl ?_
  refine V_iload 9 K.1 dX1_voteFromAll_101 rfl ?_
  exact V_sub [0, 1, 2, 3, 4, 5, 6, 7, 8, 9] rfl k1
set_option maxRecDepth 20000 in
theorem R_X1_voteFromAll_106 {ω : WT} {κ : KT} {l : Launch} {d : Nat} {post : Option Value → St → Prop} {σ : St} {x1 x2 x3 x4 x5 x6 x7 x8 x9 : Int32}  (K : Cm ω κ l yX1_voteFromAll cX1_voteFromAll 11 d (some .int) post) (hdp : 1 ≤ d)
    (k1 : ¬ ((σ.1 900) = x3) → ¬ (x7 = 0) → V ω κ 54 [(0, .ref (ω.2.2.1 23)), (1, .int x1), (2, .int x2), (3, .int x3), (4, .int x4), (5, .int x5), (6, .int x6), (7, .int ((x7 - (1 : Int32)) &&& x6)), (8, .int (x8 + 1))] [] σ)
    (k2 : ¬ ((σ.1 900) = x3) → (x7 = 0) → V ω κ 14 [(0, .ref (ω.2.2.1 23)), (1, .int x1), (2, .int x2), (3, .int x3), (4, .int x4), (5, .int (x5 + 1))] [] σ)
    (k3 : ((σ.1 900) = x3) → ((if (x4 = (-1 : Int32)) then (1 : Int32) else (if (x4 ≤ x9) then (0 : Int32) else (1 : Int32))) = 0) → ¬ (x7 = 0) → V ω κ 54 [(0, .ref (ω.2.2.1 23)), (1, .int x1), (2, .int x2), (3, .int x3), (4, .int x4), (5, .int x5), (6, .int x6), (7, .int ((x7 - (1 : Int32)) &&& x6)), (8, .int (x8 + 1))] [] σ)
    (k4 : ((σ.1 900) = x3) → ((if (x4 = (-1 : Int32)) then (1 : Int32) else (if (x4 ≤ x9) then (0 : Int32) else (1 : Int32))) = 0) → (x7 = 0) → V ω κ 14 [(0, .ref (ω.2.2.1 23)), (1, .int x1), (2, .int x2), (3, .int x3), (4, .int x4), (5, .int (x5 + 1))] [] σ)
    (k5 : ((σ.1 900) = x3) → ¬ ((if (x4 = (-1 : Int32)) then (1 : Int32) else (if (x4 ≤ x9) then (0 : Int32) else (1 : Int32))) = 0) → ¬ (x7 = 0) → V ω κ 54 [(0, .ref (ω.2.2.1 23)), (1, .int x1), (2, .int x2), (3, .int x3), (4, .int x9), (5, .int x5), (6, .int x6), (7, .int ((x7 - (1 : Int32)) &&& x6)), (8, .int (x8 + 1))] [] σ)
    (k6 : ((σ.1 900) = x3) → ¬ ((if (x4 = (-1 : Int32)) then (1 : Int32) else (if (x4 ≤ x9) then (0 : Int32) else (1 : Int32))) = 0) → (x7 = 0) → V ω κ 14 [(0, .ref (ω.2.2.1 23)), (1, .int x1), (2, .int x2), (3, .int x3), (4, .int x9), (5, .int (x5 + 1))] [] σ) :
    V ω κ 106 [(0, .ref (ω.2.2.1 23)), (1, .int x1), (2, .int x2), (3, .int x3), (4, .int x4), (5, .int x5), (6, .int x6), (7, .int x7), (8, .int x8), (9, .int x9)] [] σ := by
  refine V_aload_n 0 K.1 dX1_voteFromAll_106 rfl rfl ?_
  refine V_get (v := .ref (ω.2.2.1 14)) K.1 dX1_voteFromAll_107 rfl rfl fw_X1_28 rfl rfl ?_
  refine V_get (v := .int (σ.1 900)) K.1 dX1_voteFromAll_110 rfl rfl fw_X1_79 rfl rfl ?_
  refine V_iload_n 3 K.1 dX1_voteFromAll_113 rfl rfl ?_
  refine V_icmp_ne (tgt := 131) K.1 dX1_voteFromAll_114 (by decide) (fun c114 => ?_) (fun c114 => ?_)
  · refine V_iload 7 K.1 dX1_voteFromAll_131 rfl ?_
    refine V_if_ne (tgt := 139) K.1 dX1_voteFromAll_133 (by decide) (fun c133 => ?_) (fun c133 => ?_)
    · refine V_iload 7 K.1 dX1_voteFromAll_139 rfl ?_
      refine V_iconst (v := 1) K.1 dX1_voteFromAll_141 (by decide) ?_
      refine V_isub K.1 dX1_voteFromAll_142 ?_
      refine V_iload 6 K.1 dX1_voteFromAll_143 rfl ?_
      refine V_iand K.1 dX1_voteFromAll_145 ?_
      refine V_istore (L' := [(0, .ref (ω.2.2.1 23)), (1, .int x1), (2, .int x2), (3, .int x3), (4, .int x4), (5, .int x5), (6, .int x6), (7, .int ((x7 - (1 : Int32)) &&& x6)), (8, .int x8), (9, .int x9)]) K.1 dX1_voteFromAll_146 (by decide) rfl ?_
      refine V_iinc (v := (x8 + 1)) (L' := [(0, .ref (ω.2.2.1 23)), (1, .int x1), (2, .int x2), (3, .int x3), (4, .int x4), (5, .int x5), (6, .int x6), (7, .int ((x7 - (1 : Int32)) &&& x6)), (8, .int (x8 + 1)), (9, .int x9)]) 8 K.1 dX1_voteFromAll_148 rfl rfl (by decide) rfl ?_
      refine V_goto (tgt := 54) K.1 dX1_voteFromAll_151 (by decide) ?_
      exact V_sub [0, 1, 2, 3, 4, 5, 6, 7, 8] rfl (k1 c114 c133)
    · refine V_goto (tgt := 154) K.1 dX1_voteFromAll_136 (by decide) ?_
      refine V_iinc (v := (x5 + 1)) (L' := [(0, .ref (ω.2.2.1 23)), (1, .int x1), (2, .int x2), (3, .int x3), (4, .int x4), (5, .int (x5 + 1)), (6, .int x6), (7, .int x7), (8, .int x8), (9, .int x9)]) 5 K.1 dX1_voteFromAll_154 rfl rfl (by decide) rfl ?_
      refine V_goto (tgt := 14) K.1 dX1_voteFromAll_157 (by decide) ?_
      exact V_sub [0, 1, 2, 3, 4, 5] rfl (k2 c114 c133)
  · refine V_iload 9 K.1 dX1_voteFromAll_117 rfl ?_
    refine V_iload 4 K.1 dX1_voteFromAll_119 rfl ?_
    refine V_callS (d' := d - 1) (As := [.int x9, .int x4]) K.1 dX1_voteFromAll_121 cw_X1_82 rfl (by omega) rfl (by simp [Value.category]) (m_X1_isFewer K.1.wf (by omega)) (go_I ?_)
    refine V_if_eq (tgt := 131) K.1 dX1_voteFromAll_124 (by decide) (fun c124 => ?_) (fun c124 => ?_)
    · refine V_iload 7 K.1 dX1_voteFromAll_131 rfl ?_
      refine V_if_ne (tgt := 139) K.1 dX1_voteFromAll_133 (by decide) (fun c133 => ?_) (fun c133 => ?_)
      · refine V_iload 7 K.1 dX1_voteFromAll_139 rfl ?_
        refine V_iconst (v := 1) K.1 dX1_voteFromAll_141 (by decide) ?_
        refine V_isub K.1 dX1_voteFromAll_142 ?_
        refine V_iload 6 K.1 dX1_voteFromAll_143 rfl ?_
        refine V_iand K.1 dX1_voteFromAll_145 ?_
        refine V_istore (L' := [(0, .ref (ω.2.2.1 23)), (1, .int x1), (2, .int x2), (3, .int x3), (4, .int x4), (5, .int x5), (6, .int x6), (7, .int ((x7 - (1 : Int32)) &&& x6)), (8, .int x8), (9, .int x9)]) K.1 dX1_voteFromAll_146 (by decide) rfl ?_
        refine V_iinc (v := (x8 + 1)) (L' := [(0, .ref (ω.2.2.1 23)), (1, .int x1), (2, .int x2), (3, .int x3), (4, .int x4), (5, .int x5), (6, .int x6), (7, .int ((x7 - (1 : Int32)) &&& x6)), (8, .int (x8 + 1)), (9, .int x9)]) 8 K.1 dX1_voteFromAll_148 rfl rfl (by decide) rfl ?_
        refine V_goto (tgt := 54) K.1 dX1_voteFromAll_151 (by decide) ?_
        exact V_sub [0, 1, 2, 3, 4, 5, 6, 7, 8] rfl (k3 c114 c124 c133)
      · refine V_goto (tgt := 154) K.1 dX1_voteFromAll_136 (by decide) ?_
        refine V_iinc (v := (x5 + 1)) (L' := [(0, .ref (ω.2.2.1 23)), (1, .int x1), (2, .int x2), (3, .int x3), (4, .int x4), (5, .int (x5 + 1)), (6, .int x6), (7, .int x7), (8, .int x8), (9, .int x9)]) 5 K.1 dX1_voteFromAll_154 rfl rfl (by decide) rfl ?_
        refine V_goto (tgt := 14) K.1 dX1_voteFromAll_157 (by decide) ?_
        exact V_sub [0, 1, 2, 3, 4, 5] rfl (k4 c114 c124 c133)
    · refine V_iload 9 K.1 dX1_voteFromAll_127 rfl ?_
      refine V_istore (L' := [(0, .ref (ω.2.2.1 23)), (1, .int x1), (2, .int x2), (3, .int x3), (4, .int x9), (5, .int x5), (6, .int x6), (7, .int x7), (8, .int x8), (9, .int x9)]) K.1 dX1_voteFromAll_129 (by decide) rfl ?_
      refine V_iload 7 K.1 dX1_voteFromAll_131 rfl ?_
      refine V_if_ne (tgt := 139) K.1 dX1_voteFromAll_133 (by decide) (fun c133 => ?_) (fun c133 => ?_)
      · refine V_iload 7 K.1 dX1_voteFromAll_139 rfl ?_
        refine V_iconst (v := 1) K.1 dX1_voteFromAll_141 (by decide) ?_
        refine V_isub K.1 dX1_voteFromAll_142 ?_
        refine V_iload 6 K.1 dX1_voteFromAll_143 rfl ?_
        refine V_iand K.1 dX1_voteFromAll_145 ?_
        refine V_istore (L' := [(0, .ref (ω.2.2.1 23)), (1, .int x1), (2, .int x2), (3, .int x3), (4, .int x9), (5, .int x5), (6, .int x6), (7, .int ((x7 - (1 : Int32)) &&& x6)), (8, .int x8), (9, .int x9)]) K.1 dX1_voteFromAll_146 (by decide) rfl ?_
        refine V_iinc (v := (x8 + 1)) (L' := [(0, .ref (ω.2.2.1 23)), (1, .int x1), (2, .int x2), (3, .int x3), (4, .int x9), (5, .int x5), (6, .int x6), (7, .int ((x7 - (1 : Int32)) &&& x6)), (8, .int (x8 + 1)), (9, .int x9)]) 8 K.1 dX1_voteFromAll_148 rfl rfl (by decide) rfl ?_
        refine V_goto (tgt := 54) K.1 dX1_voteFromAll_151 (by decide) ?_
        exact V_sub [0, 1, 2, 3, 4, 5, 6, 7, 8] rfl (k5 c114 c124 c133)
      · refine V_goto (tgt := 154) K.1 dX1_voteFromAll_136 (by decide) ?_
        refine V_iinc (v := (x5 + 1)) (L' := [(0, .ref (ω.2.2.1 23)), (1, .int x1), (2, .int x2), (3, .int x3), (4, .int x9), (5, .int (x5 + 1)), (6, .int x6), (7, .int x7), (8, .int x8), (9, .int x9)]) 5 K.1 dX1_voteFromAll_154 rfl rfl (by decide) rfl ?_
        refine V_goto (tgt := 14) K.1 dX1_voteFromAll_157 (by decide) ?_
        exact V_sub [0, 1, 2, 3, 4, 5] rfl (k6 c114 c124 c133)
set_option maxRecDepth 20000 in
theorem C_X1_voteFromAll_93 {ω : WT} {κ : KT} {l : Launch} {d : Nat} {post : Option Value → St → Prop} {σ : St} {x1 x2 x3 x4 x5 x6 x7 x8 x9 s1 s2 s3 : Int32}  {post' : Option Value → St → Prop} (K : Cm ω κ l yX1_voteFromAll cX1_voteFromAll 11 d (some .int) post) (hdp : 1 ≤ d) (hM : Sp ω l yX2_step cX2_step 7 (some .int) (d - 1) [.ref (ω.2.2.1 14), .int s1, .int s2, .int s3] σ post')
    (kk : ∀ (v : Option Value) (σ' : St), post' v σ' → V ω κ 96 [(0, .ref (ω.2.2.1 23)), (1, .int x1), (2, .int x2), (3, .int x3), (4, .int x4), (5, .int x5), (6, .int x6), (7, .int x7), (8, .int x8), (9, .int x9)] (v.toList ++ []) σ') : V ω κ 93 [(0, .ref (ω.2.2.1 23)), (1, .int x1), (2, .int x2), (3, .int x3), (4, .int x4), (5, .int x5), (6, .int x6), (7, .int x7), (8, .int x8), (9, .int x9)] [.int s3, .int s2, .int s1, .ref (ω.2.2.1 14)] σ := by
  exact V_callV (d' := d - 1) (As := [.int s1, .int s2, .int s3]) (rest := []) K.1 dX1_voteFromAll_93 cw_X1_72 rfl rfl rfl (by omega) rfl (by simp [Value.category]) hM (fun v σ' h => kk v σ' h)
set_option maxRecDepth 20000 in
theorem C_X1_voteFromAll_103 {ω : WT} {κ : KT} {l : Launch} {d : Nat} {post : Option Value → St → Prop} {σ : St} {x1 x2 x3 x4 x5 x6 x7 x8 x9 s1 s2 : Int32}  {post' : Option Value → St → Prop} (K : Cm ω κ l yX1_voteFromAll cX1_voteFromAll 11 d (some .int) post) (hdp : 1 ≤ d) (hM : Sp ω l yX1_reach cX1_reach 4 none (d - 1) [.ref (ω.2.2.1 23), .int s1, .int s2] σ post')
    (kk : ∀ (v : Option Value) (σ' : St), post' v σ' → V ω κ 106 [(0, .ref (ω.2.2.1 23)), (1, .int x1), (2, .int x2), (3, .int x3), (4, .int x4), (5, .int x5), (6, .int x6), (7, .int x7), (8, .int x8), (9, .int x9)] (v.toList ++ []) σ') : V ω κ 103 [(0, .ref (ω.2.2.1 23)), (1, .int x1), (2, .int x2), (3, .int x3), (4, .int x4), (5, .int x5), (6, .int x6), (7, .int x7), (8, .int x8), (9, .int x9)] [.int s2, .int s1, .ref (ω.2.2.1 23)] σ := by
  exact V_callV (d' := d - 1) (As := [.int s1, .int s2]) (rest := []) K.1 dX1_voteFromAll_103 cw_X1_75 rfl rfl rfl (by omega) rfl (by simp [Value.category]) hM (fun v σ' h => kk v σ' h)
set_option maxRecDepth 20000 in
theorem R_X1_fewestSayings_0 {ω : WT} {κ : KT} {l : Launch} {d : Nat} {post : Option Value → St → Prop} {σ : St} {x1 x2 : Int32}  (K : Cm ω κ l yX1_fewestSayings cX1_fewestSayings 6 d (some .int) post) (hdp : 2 ≤ d)
    (b1 : vp_in (if ((σ.1 898) = (2 : Int32)) then (((((((if (((σ.1 640) - (1 : Int32)) < (0 : Int32)) then (0 : Int32) else ((σ.1 640) - (1 : Int32))) * (256 : Int32)) + (((1 : Int32) <<< ((σ.1 640) &&& 31)) - (1 : Int32))) / (256 : Int32)) * (2 : Int32)) * (8 : Int32)) + (F_bc ((((if (((σ.1 640) - (1 : Int32)) < (0 : Int32)) then (0 : Int32) else ((σ.1 640) - (1 : Int32))) * (256 : Int32)) + (((1 : Int32) <<< ((σ.1 640) &&& 31)) - (1 : Int32))) &&& (255 : Int32)))) else ((((if (((σ.1 640) - (1 : Int32)) < (0 : Int32)) then (0 : Int32) else ((σ.1 640) - (1 : Int32))) * (256 : Int32)) + (((1 : Int32) <<< ((σ.1 640) &&& 31)) - (1 : Int32))) &&& (255 : Int32))) 256)
    (b2 : vp_in (if ((σ.1 898) = (2 : Int32)) then (((((((if (((σ.1 640) - (1 : Int32)) < (0 : Int32)) then (0 : Int32) else ((σ.1 640) - (1 : Int32))) * (256 : Int32)) + (((1 : Int32) <<< ((σ.1 640) &&& 31)) - (1 : Int32))) / (256 : Int32)) * (2 : Int32)) * (8 : Int32)) + (F_bc ((((if (((σ.1 640) - (1 : Int32)) < (0 : Int32)) then (0 : Int32) else ((σ.1 640) - (1 : Int32))) * (256 : Int32)) + (((1 : Int32) <<< ((σ.1 640) &&& 31)) - (1 : Int32))) &&& (255 : Int32)))) else ((((if (((σ.1 640) - (1 : Int32)) < (0 : Int32)) then (0 : Int32) else ((σ.1 640) - (1 : Int32))) * (256 : Int32)) + (((1 : Int32) <<< ((σ.1 640) &&& 31)) - (1 : Int32))) &&& (255 : Int32))) 256)
    (k3 : V ω κ 50 [(0, .ref (ω.2.2.1 23)), (1, .int x1), (2, .int x2), (4, .int (-1 : Int32)), (5, .int (0 : Int32))] [] (pA (pA (pF σ 25 (fillF (σ.2.1 25) (-1 : Int32) 256)) 24 ((if ((σ.1 898) = (2 : Int32)) then (((((((if (((σ.1 640) - (1 : Int32)) < (0 : Int32)) then (0 : Int32) else ((σ.1 640) - (1 : Int32))) * (256 : Int32)) + (((1 : Int32) <<< ((σ.1 640) &&& 31)) - (1 : Int32))) / (256 : Int32)) * (2 : Int32)) * (8 : Int32)) + (F_bc ((((if (((σ.1 640) - (1 : Int32)) < (0 : Int32)) then (0 : Int32) else ((σ.1 640) - (1 : Int32))) * (256 : Int32)) + (((1 : Int32) <<< ((σ.1 640) &&& 31)) - (1 : Int32))) &&& (255 : Int32)))) else ((((if (((σ.1 640) - (1 : Int32)) < (0 : Int32)) then (0 : Int32) else ((σ.1 640) - (1 : Int32))) * (256 : Int32)) + (((1 : Int32) <<< ((σ.1 640) &&& 31)) - (1 : Int32))) &&& (255 : Int32)))).toNatClampNeg (((if (((σ.1 640) - (1 : Int32)) < (0 : Int32)) then (0 : Int32) else ((σ.1 640) - (1 : Int32))) * (256 : Int32)) + (((1 : Int32) <<< ((σ.1 640) &&& 31)) - (1 : Int32)))) 25 ((if ((σ.1 898) = (2 : Int32)) then (((((((if (((σ.1 640) - (1 : Int32)) < (0 : Int32)) then (0 : Int32) else ((σ.1 640) - (1 : Int32))) * (256 : Int32)) + (((1 : Int32) <<< ((σ.1 640) &&& 31)) - (1 : Int32))) / (256 : Int32)) * (2 : Int32)) * (8 : Int32)) + (F_bc ((((if (((σ.1 640) - (1 : Int32)) < (0 : Int32)) then (0 : Int32) else ((σ.1 640) - (1 : Int32))) * (256 : Int32)) + (((1 : Int32) <<< ((σ.1 640) &&& 31)) - (1 : Int32))) &&& (255 : Int32)))) else ((((if (((σ.1 640) - (1 : Int32)) < (0 : Int32)) then (0 : Int32) else ((σ.1 640) - (1 : Int32))) * (256 : Int32)) + (((1 : Int32) <<< ((σ.1 640) &&& 31)) - (1 : Int32))) &&& (255 : Int32)))).toNatClampNeg (0 : Int32))) :
    V ω κ 0 [(0, .ref (ω.2.2.1 23)), (1, .int x1), (2, .int x2)] [] σ := by
  refine V_aload_n 0 K.1 dX1_fewestSayings_0 rfl rfl ?_
  refine V_get (v := .ref (ω.2.2.1 25)) K.1 dX1_fewestSayings_1 rfl rfl fw_X1_15 rfl rfl ?_
  refine V_iconst (v := -1) K.1 dX1_fewestSayings_4 (by decide) ?_
  refine V_callS (d' := d - 1) (As := [.ref (ω.2.2.1 25), .int (-1 : Int32)]) K.1 dX1_fewestSayings_5 cw_X1_32 rfl (by omega) rfl (by simp [Value.category]) (m_J7_fill_53178 rfl K.1.wf (by omega)) (go_V ?_)
  refine V_aload_n 0 K.1 dX1_fewestSayings_8 rfl rfl ?_
  refine V_get (v := .ref (ω.2.2.1 14)) K.1 dX1_fewestSayings_9 rfl rfl fw_X1_28 rfl rfl ?_
  refine V_callV (d' := d - 1) (As := []) K.1 dX1_fewestSayings_12 cw_X1_38 rfl rfl rfl (by omega) rfl (by simp [Value.category]) (m_X2_opening K.1.wf (by omega)) (go_I ?_)
  refine V_istore_n (L' := [(0, .ref (ω.2.2.1 23)), (1, .int x1), (2, .int x2), (3, .int (((if (((σ.1 640) - (1 : Int32)) < (0 : Int32)) then (0 : Int32) else ((σ.1 640) - (1 : Int32))) * (256 : Int32)) + (((1 : Int32) <<< ((σ.1 640) &&& 31)) - (1 : Int32))))]) K.1 dX1_fewestSayings_15 rfl (by decide) rfl ?_
  refine V_aload_n 0 K.1 dX1_fewestSayings_16 rfl rfl ?_
  refine V_get (v := .ref (ω.2.2.1 24)) K.1 dX1_fewestSayings_17 rfl rfl fw_X1_9 rfl rfl ?_
  refine V_aload_n 0 K.1 dX1_fewestSayings_20 rfl rfl ?_
  refine V_get (v := .ref (ω.2.2.1 14)) K.1 dX1_fewestSayings_21 rfl rfl fw_X1_28 rfl rfl ?_
  refine V_iload_n 3 K.1 dX1_fewestSayings_24 rfl rfl ?_
  refine V_callV (d' := d - 1) (As := [.int (((if (((σ.1 640) - (1 : Int32)) < (0 : Int32)) then (0 : Int32) else ((σ.1 640) - (1 : Int32))) * (256 : Int32)) + (((1 : Int32) <<< ((σ.1 640) &&& 31)) - (1 : Int32)))]) K.1 dX1_fewestSayings_25 cw_X1_44 rfl rfl rfl (by omega) rfl (by simp [Value.category]) (m_X2_slotOf K.1.wf (by omega)) (go_I ?_)
  refine V_iload_n 3 K.1 dX1_fewestSayings_28 rfl rfl ?_
  refine V_iastore K.1 dX1_fewestSayings_29 rfl b1 ?_
  refine V_aload_n 0 K.1 dX1_fewestSayings_30 rfl rfl ?_
  refine V_get (v := .ref (ω.2.2.1 25)) K.1 dX1_fewestSayings_31 rfl rfl fw_X1_15 rfl rfl ?_
  refine V_aload_n 0 K.1 dX1_fewestSayings_34 rfl rfl ?_
  refine V_get (v := .ref (ω.2.2.1 14)) K.1 dX1_fewestSayings_35 rfl rfl fw_X1_28 rfl rfl ?_
  refine V_iload_n 3 K.1 dX1_fewestSayings_38 rfl rfl ?_
  refine V_callV (d' := d - 1) (As := [.int (((if (((σ.1 640) - (1 : Int32)) < (0 : Int32)) then (0 : Int32) else ((σ.1 640) - (1 : Int32))) * (256 : Int32)) + (((1 : Int32) <<< ((σ.1 640) &&& 31)) - (1 : Int32)))]) K.1 dX1_fewestSayings_39 cw_X1_44 rfl rfl rfl (by omega) rfl (by simp [Value.category]) (m_X2_slotOf K.1.wf (by omega)) (go_I ?_)
  refine V_iconst (v := 0) K.1 dX1_fewestSayings_42 (by decide) ?_
  refine V_iastore K.1 dX1_fewestSayings_43 rfl b2 ?_
  refine V_iconst (v := -1) K.1 dX1_fewestSayings_44 (by decide) ?_
  refine V_istore (L' := [(0, .ref (ω.2.2.1 23)), (1, .int x1), (2, .int x2), (3, .int (((if (((σ.1 640) - (1 : Int32)) < (0 : Int32)) then (0 : Int32) else ((σ.1 640) - (1 : Int32))) * (256 : Int32)) + (((1 : Int32) <<< ((σ.1 640) &&& 31)) - (1 : Int32)))), (4, .int (-1 : Int32))]) K.1 dX1_fewestSayings_45 (by decide) rfl ?_
  refine V_iconst (v := 0) K.1 dX1_fewestSayings_47 (by decide) ?_
  refine V_istore (L' := [(0, .ref (ω.2.2.1 23)), (1, .int x1), (2, .int x2), (3, .int (((if (((σ.1 640) - (1 : Int32)) < (0 : Int32)) then (0 : Int32) else ((σ.1 640) - (1 : Int32))) * (256 : Int32)) + (((1 : Int32) <<< ((σ.1 640) &&& 31)) - (1 : Int32)))), (4, .int (-1 : Int32)), (5, .int (0 : Int32))]) K.1 dX1_fewestSayings_48 (by decide) rfl ?_
  exact V_sub [0, 1, 2, 4, 5] rfl k3
set_option maxRecDepth 20000 in
theorem R_X1_fewestSayings_50 {ω : WT} {κ : KT} {l : Launch} {d : Nat} {post : Option Value → St → Prop} {σ : St} {x1 x2 x4 x5 : Int32}  (K : Cm ω κ l yX1_fewestSayings cX1_fewestSayings 6 d (some .int) post)
    (k2 : ((σ.1 644) ≤ x5) → post (some (.int (if (x4 = (-1 : Int32)) then (-9 : Int32) else x4))) σ)
    (b3 : ¬ ((σ.1 644) ≤ x5) → vp_in x5 6)
    (b4 : ¬ ((σ.1 644) ≤ x5) → vp_in (σ.2.1 13 (x5).toNatClampNeg) 6)
    (k5 : ¬ ((σ.1 644) ≤ x5) → V ω κ 83 [(0, .ref (ω.2.2.1 23)), (1, .int x1), (2, .int x2), (5, .int x5)] [.int x2, .int x1, .int (σ.2.1 12 ((σ.2.1 13 (x5).toNatClampNeg)).toNatClampNeg), .ref (ω.2.2.1 23)] σ) :
    V ω κ 50 [(0, .ref (ω.2.2.1 23)), (1, .int x1), (2, .int x2), (4, .int x4), (5, .int x5)] [] σ := by
  refine V_iload 4 K.1 dX1_fewestSayings_50 rfl ?_
  refine V_aload_n 0 K.1 dX1_fewestSayings_52 rfl rfl ?_
  refine V_get (v := .ref (ω.2.2.1 10)) K.1 dX1_fewestSayings_53 rfl rfl fw_X1_24 rfl rfl ?_
  refine V_get (v := .int (σ.1 644)) K.1 dX1_fewestSayings_56 rfl rfl fw_X1_48 rfl rfl ?_
  refine V_icmp_ge (tgt := 94) K.1 dX1_fewestSayings_59 (by decide) (fun c59 => ?_) (fun c59 => ?_)
  · refine V_iload 3 K.1 dX1_fewestSayings_94 rfl ?_
    refine V_iconst (v := -1) K.1 dX1_fewestSayings_96 (by decide) ?_
    refine V_join (J := 107) (S := []) (v := .int (if (x4 = (-1 : Int32)) then (-9 : Int32) else x4)) (fun hJ1 => ?_) ?_
    · refine V_icmp_ne (tgt := 105) K.1 dX1_fewestSayings_97 (by decide) (fun c97 => ?_) (fun c97 => ?_)
      · refine V_iload 3 K.1 dX1_fewestSayings_105 rfl ?_
        exact V_top (if_neg c97) hJ1
      · refine V_bipush (v := -9) K.1 dX1_fewestSayings_100 (by decide) ?_
        refine V_goto (tgt := 107) K.1 dX1_fewestSayings_102 (by decide) ?_
        exact V_top (if_pos c97) hJ1
    exact V_iret K dX1_fewestSayings_107 (k2 c59)
  · refine V_aload_n 0 K.1 dX1_fewestSayings_62 rfl rfl ?_
    refine V_aload_n 0 K.1 dX1_fewestSayings_63 rfl rfl ?_
    refine V_get (v := .ref (ω.2.2.1 10)) K.1 dX1_fewestSayings_64 rfl rfl fw_X1_24 rfl rfl ?_
    refine V_get (v := .ref (ω.2.2.1 12)) K.1 dX1_fewestSayings_67 rfl rfl fw_X1_54 rfl rfl ?_
    refine V_aload_n 0 K.1 dX1_fewestSayings_70 rfl rfl ?_
    refine V_get (v := .ref (ω.2.2.1 10)) K.1 dX1_fewestSayings_71 rfl rfl fw_X1_24 rfl rfl ?_
    refine V_get (v := .ref (ω.2.2.1 13)) K.1 dX1_fewestSayings_74 rfl rfl fw_X1_57 rfl rfl ?_
    refine V_iload 4 K.1 dX1_fewestSayings_77 rfl ?_
    refine V_iaload (v := (σ.2.1 13 (x5).toNatClampNeg)) K.1 dX1_fewestSayings_79 rfl (b3 c59) rfl ?_
    refine V_iaload (v := (σ.2.1 12 ((σ.2.1 13 (x5).toNatClampNeg)).toNatClampNeg)) K.1 dX1_fewestSayings_80 rfl (b4 c59) rfl ?_
    refine V_iload_n 1 K.1 dX1_fewestSayings_81 rfl rfl ?_
    refine V_iload_n 2 K.1 dX1_fewestSayings_82 rfl rfl ?_
    exact V_sub [0, 1, 2, 4] rfl (k5 c59)
set_option maxRecDepth 20000 in
theorem R_X1_fewestSayings_86 {ω : WT} {κ : KT} {l : Launch} {d : Nat} {post : Option Value → St → Prop} {σ : St} {x1 x2 x5 s0 : Int32}  (K : Cm ω κ l yX1_fewestSayings cX1_fewestSayings 6 d (some .int) post)
    (k1 : V ω κ 50 [(0, .ref (ω.2.2.1 23)), (1, .int x1), (2, .int x2), (4, .int s0), (5, .int (x5 + 1))] [] σ) :
    V ω κ 86 [(0, .ref (ω.2.2.1 23)), (1, .int x1), (2, .int x2), (5, .int x5)] [.int s0] σ := by
  refine V_istore (L' := [(0, .ref (ω.2.2.1 23)), (1, .int x1), (2, .int x2), (4, .int s0), (5, .int x5)]) K.1 dX1_fewestSayings_86 (by decide) rfl ?_
  refine V_iinc (v := (x5 + 1)) (L' := [(0, .ref (ω.2.2.1 23)), (1, .int x1), (2, .int x2), (4, .int s0), (5, .int (x5 + 1))]) 4 K.1 dX1_fewestSayings_88 rfl rfl (by decide) rfl ?_
  refine V_goto (tgt := 50) K.1 dX1_fewestSayings_91 (by decide) ?_
  exact k1
set_option maxRecDepth 20000 in
theorem C_X1_fewestSayings_83 {ω : WT} {κ : KT} {l : Launch} {d : Nat} {post : Option Value → St → Prop} {σ : St} {x1 x2 x5 s1 s2 s3 : Int32}  {post' : Option Value → St → Prop} (K : Cm ω κ l yX1_fewestSayings cX1_fewestSayings 6 d (some .int) post) (hdp : 1 ≤ d) (hM : Sp ω l yX1_voteFromAll cX1_voteFromAll 11 (some .int) (d - 1) [.ref (ω.2.2.1 23), .int s1, .int s2, .int s3] σ post')
    (kk : ∀ (v : Option Value) (σ' : St), post' v σ' → V ω κ 86 [(0, .ref (ω.2.2.1 23)), (1, .int x1), (2, .int x2), (5, .int x5)] (v.toList ++ []) σ') : V ω κ 83 [(0, .ref (ω.2.2.1 23)), (1, .int x1), (2, .int x2), (5, .int x5)] [.int s3, .int s2, .int s1, .ref (ω.2.2.1 23)] σ := by
  exact V_callV (d' := d - 1) (As := [.int s1, .int s2, .int s3]) (rest := []) K.1 dX1_fewestSayings_83 cw_X1_60 rfl rfl rfl (by omega) rfl (by simp [Value.category]) hM (fun v σ' h => kk v σ' h)
set_option maxRecDepth 20000 in
theorem R_X8_sway_0 {ω : WT} {κ : KT} {l : Launch} {d : Nat} {post : Option Value → St → Prop} {σ : St} {x1 x2 : Int32}  (K : Cm ω κ l yX8_sway cX8_sway 4 d (some .int) post) (hdp : 2 ≤ d)
    (k1 : ((F_bc x1) < (1 : Int32)) → post (some (.int (-2 : Int32))) σ)
    (k2 : ¬ ((F_bc x1) < (1 : Int32)) → ((3 : Int32) < (F_bc x1)) → post (some (.int (-2 : Int32))) σ)
    (k3 : ¬ ((F_bc x1) < (1 : Int32)) → ¬ ((3 : Int32) < (F_bc x1)) → ((x1 &&& ((((1 : Int32) <<< ((σ.1 640) &&& 31)) - (1 : Int32)) ^^^ (-1 : Int32))) = 0) → (x2 = (1 : Int32)) → ¬ ((if ((σ.1 640) ≤ 0) then (0 : Int32) else (1 : Int32)) = 0) → V ω κ 70 [] [.int x2, .int x1, .ref (ω.2.2.1 23)] (pS (pS σ 897 (σ.1 642)) 898 (σ.1 643)))
    (k4 : ¬ ((F_bc x1) < (1 : Int32)) → ¬ ((3 : Int32) < (F_bc x1)) → ((x1 &&& ((((1 : Int32) <<< ((σ.1 640) &&& 31)) - (1 : Int32)) ^^^ (-1 : Int32))) = 0) → (x2 = (1 : Int32)) → ((if ((σ.1 640) ≤ 0) then (0 : Int32) else (1 : Int32)) = 0) → post (some (.int (-3 : Int32))) σ)
    (k5 : ¬ ((F_bc x1) < (1 : Int32)) → ¬ ((3 : Int32) < (F_bc x1)) → ((x1 &&& ((((1 : Int32) <<< ((σ.1 640) &&& 31)) - (1 : Int32)) ^^^ (-1 : Int32))) = 0) → ¬ (x2 = (1 : Int32)) → (x2 = 0) → ¬ ((if ((σ.1 640) ≤ 0) then (0 : Int32) else (1 : Int32)) = 0) → V ω κ 70 [] [.int x2, .int x1, .ref (ω.2.2.1 23)] (pS (pS σ 897 (σ.1 642)) 898 (σ.1 643)))
    (k6 : ¬ ((F_bc x1) < (1 : Int32)) → ¬ ((3 : Int32) < (F_bc x1)) → ((x1 &&& ((((1 : Int32) <<< ((σ.1 640) &&& 31)) - (1 : Int32)) ^^^ (-1 : Int32))) = 0) → ¬ (x2 = (1 : Int32)) → (x2 = 0) → ((if ((σ.1 640) ≤ 0) then (0 : Int32) else (1 : Int32)) = 0) → post (some (.int (-3 : Int32))) σ)
    (k7 : ¬ ((F_bc x1) < (1 : Int32)) → ¬ ((3 : Int32) < (F_bc x1)) → ((x1 &&& ((((1 : Int32) <<< ((σ.1 640) &&& 31)) - (1 : Int32)) ^^^ (-1 : Int32))) = 0) → ¬ (x2 = (1 : Int32)) → ¬ (x2 = 0) → post (some (.int (-2 : Int32))) σ)
    (k8 : ¬ ((F_bc x1) < (1 : Int32)) → ¬ ((3 : Int32) < (F_bc x1)) → ¬ ((x1 &&& ((((1 : Int32) <<< ((σ.1 640) &&& 31)) - (1 : Int32)) ^^^ (-1 : Int32))) = 0) → post (some (.int (-2 : Int32))) σ) :
    V ω κ 0 [(0, .ref (ω.2.2.1 0)), (1, .int x1), (2, .int x2)] [] σ := by
  refine V_iload_n 1 K.1 dX8_sway_0 rfl rfl ?_
  refine V_callS (d' := d - 1) (As := [.int x1]) K.1 dX8_sway_1 cw_X8_164 rfl (by omega) rfl (by simp [Value.category]) (m_J6_bitCount_0f7a4 K.1.wf (by omega)) (go_I ?_)
  refine V_istore_n (L' := [(0, .ref (ω.2.2.1 0)), (1, .int x1), (2, .int x2), (3, .int (F_bc x1))]) K.1 dX8_sway_4 rfl (by decide) rfl ?_
  refine V_iload_n 3 K.1 dX8_sway_5 rfl rfl ?_
  refine V_iconst (v := 1) K.1 dX8_sway_6 (by decide) ?_
  refine V_icmp_lt (tgt := 29) K.1 dX8_sway_7 (by decide) (fun c7 => ?_) (fun c7 => ?_)
  · refine V_bipush (v := -2) K.1 dX8_sway_29 (by decide) ?_
    exact V_iret K dX8_sway_31 (k1 c7)
  · refine V_iload_n 3 K.1 dX8_sway_10 rfl rfl ?_
    refine V_iconst (v := 3) K.1 dX8_sway_11 (by decide) ?_
    refine V_icmp_gt (tgt := 29) K.1 dX8_sway_12 (by decide) (fun c12 => ?_) (fun c12 => ?_)
    · refine V_bipush (v := -2) K.1 dX8_sway_29 (by decide) ?_
      exact V_iret K dX8_sway_31 (k2 c7 c12)
    · refine V_iload_n 1 K.1 dX8_sway_15 rfl rfl ?_
      refine V_aload_n 0 K.1 dX8_sway_16 rfl rfl ?_
      refine V_get (v := .ref (ω.2.2.1 10)) K.1 dX8_sway_17 rfl rfl fw_X8_21 rfl rfl ?_
      refine V_callV (d' := d - 1) (As := []) K.1 dX8_sway_20 cw_X8_169 rfl rfl rfl (by omega) rfl (by simp [Value.category]) (m_X7_everybody K.1.wf (by omega)) (go_I ?_)
      refine V_iconst (v := -1) K.1 dX8_sway_23 (by decide) ?_
      refine V_ixor K.1 dX8_sway_24 ?_
      refine V_iand K.1 dX8_sway_25 ?_
      refine V_if_eq (tgt := 32) K.1 dX8_sway_26 (by decide) (fun c26 => ?_) (fun c26 => ?_)
      · refine V_iload_n 2 K.1 dX8_sway_32 rfl rfl ?_
        refine V_iconst (v := 1) K.1 dX8_sway_33 (by decide) ?_
        refine V_icmp_eq (tgt := 44) K.1 dX8_sway_34 (by decide) (fun c34 => ?_) (fun c34 => ?_)
        · refine V_aload_n 0 K.1 dX8_sway_44 rfl rfl ?_
          refine V_get (v := .ref (ω.2.2.1 10)) K.1 dX8_sway_45 rfl rfl fw_X8_21 rfl rfl ?_
          refine V_callV (d' := d - 1) (As := []) K.1 dX8_sway_48 cw_X8_107 rfl rfl rfl (by omega) rfl (by simp [Value.category]) (m_X7_stands K.1.wf (by omega)) (go_I ?_)
          refine V_if_ne (tgt := 57) K.1 dX8_sway_51 (by decide) (fun c51 => ?_) (fun c51 => ?_)
          · refine V_aload_n 0 K.1 dX8_sway_57 rfl rfl ?_
            refine V_get (v := .ref (ω.2.2.1 14)) K.1 dX8_sway_58 rfl rfl fw_X8_30 rfl rfl ?_
            refine V_callV (d' := d - 1) (As := []) K.1 dX8_sway_61 cw_X8_149 rfl rfl rfl (by omega) rfl (by simp [Value.category]) (m_X2_useOwnRules K.1.wf (by omega)) (go_V ?_)
            refine V_aload_n 0 K.1 dX8_sway_64 rfl rfl ?_
            refine V_get (v := .ref (ω.2.2.1 23)) K.1 dX8_sway_65 rfl rfl fw_X8_55 rfl rfl ?_
            refine V_iload_n 1 K.1 dX8_sway_68 rfl rfl ?_
            refine V_iload_n 2 K.1 dX8_sway_69 rfl rfl ?_
            exact V_sub [] rfl (k3 c7 c12 c26 c34 c51)
          · refine V_bipush (v := -3) K.1 dX8_sway_54 (by decide) ?_
            exact V_iret K dX8_sway_56 (k4 c7 c12 c26 c34 c51)
        · refine V_iload_n 2 K.1 dX8_sway_37 rfl rfl ?_
          refine V_if_eq (tgt := 44) K.1 dX8_sway_38 (by decide) (fun c38 => ?_) (fun c38 => ?_)
          · refine V_aload_n 0 K.1 dX8_sway_44 rfl rfl ?_
            refine V_get (v := .ref (ω.2.2.1 10)) K.1 dX8_sway_45 rfl rfl fw_X8_21 rfl rfl ?_
            refine V_callV (d' := d - 1) (As := []) K.1 dX8_sway_48 cw_X8_107 rfl rfl rfl (by omega) rfl (by simp [Value.category]) (m_X7_stands K.1.wf (by omega)) (go_I ?_)
            refine V_if_ne (tgt := 57) K.1 dX8_sway_51 (by decide) (fun c51 => ?_) (fun c51 => ?_)
            · refine V_aload_n 0 K.1 dX8_sway_57 rfl rfl ?_
              refine V_get (v := .ref (ω.2.2.1 14)) K.1 dX8_sway_58 rfl rfl fw_X8_30 rfl rfl ?_
              refine V_callV (d' := d - 1) (As := []) K.1 dX8_sway_61 cw_X8_149 rfl rfl rfl (by omega) rfl (by simp [Value.category]) (m_X2_useOwnRules K.1.wf (by omega)) (go_V ?_)
              refine V_aload_n 0 K.1 dX8_sway_64 rfl rfl ?_
              refine V_get (v := .ref (ω.2.2.1 23)) K.1 dX8_sway_65 rfl rfl fw_X8_55 rfl rfl ?_
              refine V_iload_n 1 K.1 dX8_sway_68 rfl rfl ?_
              refine V_iload_n 2 K.1 dX8_sway_69 rfl rfl ?_
              exact V_sub [] rfl (k5 c7 c12 c26 c34 c38 c51)
            · refine V_bipush (v := -3) K.1 dX8_sway_54 (by decide) ?_
              exact V_iret K dX8_sway_56 (k6 c7 c12 c26 c34 c38 c51)
          · refine V_bipush (v := -2) K.1 dX8_sway_41 (by decide) ?_
            exact V_iret K dX8_sway_43 (k7 c7 c12 c26 c34 c38)
      · refine V_bipush (v := -2) K.1 dX8_sway_29 (by decide) ?_
        exact V_iret K dX8_sway_31 (k8 c7 c12 c26)
set_option maxRecDepth 20000 in
theorem R_X8_sway_73 {ω : WT} {κ : KT} {l : Launch} {d : Nat} {post : Option Value → St → Prop} {σ : St} {s0 : Int32}  (K : Cm ω κ l yX8_sway cX8_sway 4 d (some .int) post)
    (k1 : post (some (.int s0)) σ) :
    V ω κ 73 [] [.int s0] σ := by
  exact V_iret K dX8_sway_73 k1
set_option maxRecDepth 20000 in
theorem C_X8_sway_70 {ω : WT} {κ : KT} {l : Launch} {d : Nat} {post : Option Value → St → Prop} {σ : St} {s1 s2 : Int32}  {post' : Option Value → St → Prop} (K : Cm ω κ l yX8_sway cX8_sway 4 d (some .int) post) (hdp : 1 ≤ d) (hM : Sp ω l yX1_fewestSayings cX1_fewestSayings 6 (some .int) (d - 1) [.ref (ω.2.2.1 23), .int s1, .int s2] σ post')
    (kk : ∀ (v : Option Value) (σ' : St), post' v σ' → V ω κ 73 [] (v.toList ++ []) σ') : V ω κ 70 [] [.int s2, .int s1, .ref (ω.2.2.1 23)] σ := by
  exact V_callV (d' := d - 1) (As := [.int s1, .int s2]) (rest := []) K.1 dX8_sway_70 cw_X8_172 rfl rfl rfl (by omega) rfl (by simp [Value.category]) hM (fun v σ' h => kk v σ' h)
set_option maxRecDepth 20000 in
theorem R_X9_spread_0 {ω : WT} {κ : KT} {l : Launch} {d : Nat} {post : Option Value → St → Prop} {σ : St} {x0 x1 : Int32}  (K : Cm ω κ l yX9_spread cX9_spread 5 d (some .int) post)
    (k1 : V ω κ 7 [(1, .int x1), (2, .int (0 : Int32)), (3, .int x0), (4, .int (0 : Int32))] [] σ) :
    V ω κ 0 [(0, .int x0), (1, .int x1)] [] σ := by
  refine V_iconst (v := 0) K.1 dX9_spread_0 (by decide) ?_
  refine V_istore_n (L' := [(0, .int x0), (1, .int x1), (2, .int (0 : Int32))]) K.1 dX9_spread_1 rfl (by decide) rfl ?_
  refine V_iload_n 0 K.1 dX9_spread_2 rfl rfl ?_
  refine V_istore_n (L' := [(0, .int x0), (1, .int x1), (2, .int (0 : Int32)), (3, .int x0)]) K.1 dX9_spread_3 rfl (by decide) rfl ?_
  refine V_iconst (v := 0) K.1 dX9_spread_4 (by decide) ?_
  refine V_istore (L' := [(0, .int x0), (1, .int x1), (2, .int (0 : Int32)), (3, .int x0), (4, .int (0 : Int32))]) K.1 dX9_spread_5 (by decide) rfl ?_
  exact V_sub [1, 2, 3, 4] rfl k1
set_option maxRecDepth 20000 in
theorem R_X9_spread_7 {ω : WT} {κ : KT} {l : Launch} {d : Nat} {post : Option Value → St → Prop} {σ : St} {x1 x2 x3 x4 : Int32}  (K : Cm ω κ l yX9_spread cX9_spread 5 d (some .int) post)
    (k1 : ((8 : Int32) ≤ x4) → post (some (.int x2)) σ)
    (k2 : ¬ ((8 : Int32) ≤ x4) → ¬ (((x1 >>> (x4 &&& 31)) &&& (1 : Int32)) = (1 : Int32)) → V ω κ 7 [(1, .int x1), (2, .int x2), (3, .int x3), (4, .int (x4 + 1))] [] σ)
    (k3 : ¬ ((8 : Int32) ≤ x4) → (((x1 >>> (x4 &&& 31)) &&& (1 : Int32)) = (1 : Int32)) → V ω κ 7 [(1, .int x1), (2, .int (x2 ||| ((x3 &&& (1 : Int32)) <<< (x4 &&& 31)))), (3, .int (x3 >>> ((1 : Int32) &&& 31))), (4, .int (x4 + 1))] [] σ) :
    V ω κ 7 [(1, .int x1), (2, .int x2), (3, .int x3), (4, .int x4)] [] σ := by
  refine V_iload 3 K.1 dX9_spread_7 rfl ?_
  refine V_bipush (v := 8) K.1 dX9_spread_9 (by decide) ?_
  refine V_icmp_ge (tgt := 43) K.1 dX9_spread_11 (by decide) (fun c11 => ?_) (fun c11 => ?_)
  · refine V_iload_n 1 K.1 dX9_spread_43 rfl rfl ?_
    exact V_iret K dX9_spread_44 (k1 c11)
  · refine V_iload_n 0 K.1 dX9_spread_14 rfl rfl ?_
    refine V_iload 3 K.1 dX9_spread_15 rfl ?_
    refine V_ishr K.1 dX9_spread_17 ?_
    refine V_iconst (v := 1) K.1 dX9_spread_18 (by decide) ?_
    refine V_iand K.1 dX9_spread_19 ?_
    refine V_iconst (v := 1) K.1 dX9_spread_20 (by decide) ?_
    refine V_icmp_ne (tgt := 37) K.1 dX9_spread_21 (by decide) (fun c21 => ?_) (fun c21 => ?_)
    · refine V_iinc (v := (x4 + 1)) (L' := [(1, .int x1), (2, .int x2), (3, .int x3), (4, .int (x4 + 1))]) 3 K.1 dX9_spread_37 rfl rfl (by decide) rfl ?_
      refine V_goto (tgt := 7) K.1 dX9_spread_40 (by decide) ?_
      exact (k2 c11 c21)
    · refine V_iload_n 1 K.1 dX9_spread_24 rfl rfl ?_
      refine V_iload_n 2 K.1 dX9_spread_25 rfl rfl ?_
      refine V_iconst (v := 1) K.1 dX9_spread_26 (by decide) ?_
      refine V_iand K.1 dX9_spread_27 ?_
      refine V_iload 3 K.1 dX9_spread_28 rfl ?_
      refine V_ishl K.1 dX9_spread_30 ?_
      refine V_ior K.1 dX9_spread_31 ?_
      refine V_istore_n (L' := [(1, .int x1), (2, .int (x2 ||| ((x3 &&& (1 : Int32)) <<< (x4 &&& 31)))), (3, .int x3), (4, .int x4)]) K.1 dX9_spread_32 rfl (by decide) rfl ?_
      refine V_iload_n 2 K.1 dX9_spread_33 rfl rfl ?_
      refine V_iconst (v := 1) K.1 dX9_spread_34 (by decide) ?_
      refine V_ishr K.1 dX9_spread_35 ?_
      refine V_istore_n (L' := [(1, .int x1), (2, .int (x2 ||| ((x3 &&& (1 : Int32)) <<< (x4 &&& 31)))), (3, .int (x3 >>> ((1 : Int32) &&& 31))), (4, .int x4)]) K.1 dX9_spread_36 rfl (by decide) rfl ?_
      refine V_iinc (v := (x4 + 1)) (L' := [(1, .int x1), (2, .int (x2 ||| ((x3 &&& (1 : Int32)) <<< (x4 &&& 31)))), (3, .int (x3 >>> ((1 : Int32) &&& 31))), (4, .int (x4 + 1))]) 3 K.1 dX9_spread_37 rfl rfl (by decide) rfl ?_
      refine V_goto (tgt := 7) K.1 dX9_spread_40 (by decide) ?_
      exact (k3 c11 c21)
set_option maxRecDepth 20000 in
theorem R_X9_lies_0 {ω : WT} {κ : KT} {l : Launch} {d : Nat} {post : Option Value → St → Prop} {σ : St} {x1 x2 x3 : Int32}  (K : Cm ω κ l yX9_lies cX9_lies 6 d (some .int) post)
    (k1 : V ω κ 6 [(0, .ref (ω.2.2.1 35)), (1, .int x1), (2, .int x2), (3, .int x3), (4, .int (0 : Int32)), (5, .int (0 : Int32))] [] σ) :
    V ω κ 0 [(0, .ref (ω.2.2.1 35)), (1, .int x1), (2, .int x2), (3, .int x3)] [] σ := by
  refine V_iconst (v := 0) K.1 dX9_lies_0 (by decide) ?_
  refine V_istore (L' := [(0, .ref (ω.2.2.1 35)), (1, .int x1), (2, .int x2), (3, .int x3), (4, .int (0 : Int32))]) K.1 dX9_lies_1 (by decide) rfl ?_
  refine V_iconst (v := 0) K.1 dX9_lies_3 (by decide) ?_
  refine V_istore (L' := [(0, .ref (ω.2.2.1 35)), (1, .int x1), (2, .int x2), (3, .int x3), (4, .int (0 : Int32)), (5, .int (0 : Int32))]) K.1 dX9_lies_4 (by decide) rfl ?_
  exact k1
set_option maxRecDepth 20000 in
theorem R_X9_lies_6 {ω : WT} {κ : KT} {l : Launch} {d : Nat} {post : Option Value → St → Prop} {σ : St} {x1 x2 x3 x4 x5 : Int32}  (K : Cm ω κ l yX9_lies cX9_lies 6 d (some .int) post)
    (k1 : ((σ.1 2245) ≤ x5) → post (some (.int x4)) σ)
    (b3 : ¬ ((σ.1 2245) ≤ x5) → (((x2 >>> (x5 &&& 31)) &&& (1 : Int32)) = (1 : Int32)) → vp_in x5 8)
    (k4 : ¬ ((σ.1 2245) ≤ x5) → V ω κ 6 [(0, .ref (ω.2.2.1 35)), (1, .int x1), (2, .int x2), (3, .int x3), (4, .int (x4 + (if (((x2 >>> (x5 &&& 31)) &&& (1 : Int32)) = (1 : Int32)) then (if (((x3 >>> (x5 &&& 31)) &&& (1 : Int32)) = (((σ.2.1 40 (x5).toNatClampNeg) >>> (x1 &&& 31)) &&& (1 : Int32))) then (0 : Int32) else (1 : Int32)) else (0 : Int32)))), (5, .int (x5 + 1))] [] σ) :
    V ω κ 6 [(0, .ref (ω.2.2.1 35)), (1, .int x1), (2, .int x2), (3, .int x3), (4, .int x4), (5, .int x5)] [] σ := by
  refine V_iload 5 K.1 dX9_lies_6 rfl ?_
  refine V_aload_n 0 K.1 dX9_lies_8 rfl rfl ?_
  refine V_get (v := .int (σ.1 2245)) K.1 dX9_lies_9 rfl rfl fw_X9_91 rfl rfl ?_
  refine V_icmp_ge (tgt := 61) K.1 dX9_lies_12 (by decide) (fun c12 => ?_) (fun c12 => ?_)
  · refine V_iload 4 K.1 dX9_lies_61 rfl ?_
    exact V_iret K dX9_lies_63 (k1 c12)
  · refine V_iload 4 K.1 dX9_lies_15 rfl ?_
    refine V_iload_n 2 K.1 dX9_lies_17 rfl rfl ?_
    refine V_iload 5 K.1 dX9_lies_18 rfl ?_
    refine V_ishr K.1 dX9_lies_20 ?_
    refine V_iconst (v := 1) K.1 dX9_lies_21 (by decide) ?_
    refine V_iand K.1 dX9_lies_22 ?_
    refine V_iconst (v := 1) K.1 dX9_lies_23 (by decide) ?_
    refine V_join (J := 52) (S := [.int x4]) (v := .int (if (((x2 >>> (x5 &&& 31)) &&& (1 : Int32)) = (1 : Int32)) then (if (((x3 >>> (x5 &&& 31)) &&& (1 : Int32)) = (((σ.2.1 40 (x5).toNatClampNeg) >>> (x1 &&& 31)) &&& (1 : Int32))) then (0 : Int32) else (1 : Int32)) else (0 : Int32))) (fun hJ2 => ?_) ?_
    · refine V_icmp_ne (tgt := 51) K.1 dX9_lies_24 (by decide) (fun c24 => ?_) (fun c24 => ?_)
      · refine V_iconst (v := 0) K.1 dX9_lies_51 (by decide) ?_
        exact V_top (if_neg c24) hJ2
      · refine V_iload_n 3 K.1 dX9_lies_27 rfl rfl ?_
        refine V_iload 5 K.1 dX9_lies_28 rfl ?_
        refine V_ishr K.1 dX9_lies_30 ?_
        refine V_iconst (v := 1) K.1 dX9_lies_31 (by decide) ?_
        refine V_iand K.1 dX9_lies_32 ?_
        refine V_aload_n 0 K.1 dX9_lies_33 rfl rfl ?_
        refine V_get (v := .ref (ω.2.2.1 40)) K.1 dX9_lies_34 rfl rfl fw_X9_22 rfl rfl ?_
        refine V_iload 5 K.1 dX9_lies_37 rfl ?_
        refine V_iaload (v := (σ.2.1 40 (x5).toNatClampNeg)) K.1 dX9_lies_39 rfl (b3 c12 c24) rfl ?_
        refine V_iload_n 1 K.1 dX9_lies_40 rfl rfl ?_
        refine V_ishr K.1 dX9_lies_41 ?_
        refine V_iconst (v := 1) K.1 dX9_lies_42 (by decide) ?_
        refine V_iand K.1 dX9_lies_43 ?_
        refine V_icmp_eq (tgt := 51) K.1 dX9_lies_44 (by decide) (fun c44 => ?_) (fun c44 => ?_)
        · refine V_iconst (v := 0) K.1 dX9_lies_51 (by decide) ?_
          exact V_top ((if_pos c24).trans (if_pos c44)) hJ2
        · refine V_iconst (v := 1) K.1 dX9_lies_47 (by decide) ?_
          refine V_goto (tgt := 52) K.1 dX9_lies_48 (by decide) ?_
          exact V_top ((if_pos c24).trans (if_neg c44)) hJ2
    refine V_iadd K.1 dX9_lies_52 ?_
    refine V_istore (L' := [(0, .ref (ω.2.2.1 35)), (1, .int x1), (2, .int x2), (3, .int x3), (4, .int (x4 + (if (((x2 >>> (x5 &&& 31)) &&& (1 : Int32)) = (1 : Int32)) then (if (((x3 >>> (x5 &&& 31)) &&& (1 : Int32)) = (((σ.2.1 40 (x5).toNatClampNeg) >>> (x1 &&& 31)) &&& (1 : Int32))) then (0 : Int32) else (1 : Int32)) else (0 : Int32)))), (5, .int x5)]) K.1 dX9_lies_53 (by decide) rfl ?_
    refine V_iinc (v := (x5 + 1)) (L' := [(0, .ref (ω.2.2.1 35)), (1, .int x1), (2, .int x2), (3, .int x3), (4, .int (x4 + (if (((x2 >>> (x5 &&& 31)) &&& (1 : Int32)) = (1 : Int32)) then (if (((x3 >>> (x5 &&& 31)) &&& (1 : Int32)) = (((σ.2.1 40 (x5).toNatClampNeg) >>> (x1 &&& 31)) &&& (1 : Int32))) then (0 : Int32) else (1 : Int32)) else (0 : Int32)))), (5, .int (x5 + 1))]) 5 K.1 dX9_lies_55 rfl rfl (by decide) rfl ?_
    refine V_goto (tgt := 6) K.1 dX9_lies_58 (by decide) ?_
    exact (k4 c12)
set_option maxRecDepth 20000 in
theorem R_X9_findSway_0 {ω : WT} {κ : KT} {l : Launch} {d : Nat} {post : Option Value → St → Prop} {σ : St} {x1 x2 : Int32}  (K : Cm ω κ l yX9_findSway cX9_findSway 8 d (some .int) post) (hdp : 2 ≤ d)
    (p1 : vp_in (0 : Int32) 7)
    (p2 : vp_in (0 : Int32) 7)
    (p3 : (0 : Int32) = 0 ∨ (0 : Int32) = 1)
    (p4 : vp_in (0 : Int32) 7)
    (p5 : vp_in (0 : Int32) 7)
    (p6 : vp_in (0 : Int32) 7)
    (k7 : V ω κ 16 [(0, .ref (ω.2.2.1 35)), (1, .int x1), (2, .int x2), (3, .int (1000000 : Int32)), (4, .int (0 : Int32))] [] (pA (pA (pA (pA (pA (pS (pS (pS (pS (pS σ 2258 (((1 : Int32) <<< ((σ.1 2245) &&& 31)) - (1 : Int32))) 2259 (0 : Int32)) 2260 ((σ.1 2245) - (1 : Int32))) 2261 (σ.1 2249)) 2262 (σ.1 2250)) 49 ((0 : Int32)).toNatClampNeg (((1 : Int32) <<< ((σ.1 2245) &&& 31)) - (1 : Int32))) 50 ((0 : Int32)).toNatClampNeg (0 : Int32)) 51 ((0 : Int32)).toNatClampNeg ((σ.1 2245) - (1 : Int32))) 52 ((0 : Int32)).toNatClampNeg (0 : Int32)) 53 ((0 : Int32)).toNatClampNeg (-1 : Int32))) :
    V ω κ 0 [(0, .ref (ω.2.2.1 35)), (1, .int x1), (2, .int x2)] [] σ := by
  refine V_aload_n 0 K.1 dX9_findSway_0 rfl rfl ?_
  refine V_callV (d' := d - 1) (As := []) K.1 dX9_findSway_1 cw_X9_205 rfl rfl rfl (by omega) rfl (by simp [Value.category]) (m_X9_layHall K.1.wf (by omega)) (go_V ?_)
  refine V_aload_n 0 K.1 dX9_findSway_4 rfl rfl ?_
  refine V_iconst (v := 0) K.1 dX9_findSway_5 (by decide) ?_
  refine V_iconst (v := 0) K.1 dX9_findSway_6 (by decide) ?_
  refine V_callV (d' := d - 1) (As := [.int (0 : Int32), .int (0 : Int32)]) K.1 dX9_findSway_7 cw_X9_230 rfl rfl rfl (by omega) rfl (by simp [Value.category]) (m_X9_keepAhead K.1.wf (by omega) p1 p2 p3 p4 p5 p6) (go_V ?_)
  refine V_ldc K.1 dX9_findSway_10 cn_X9_234 ?_
  refine V_istore_n (L' := [(0, .ref (ω.2.2.1 35)), (1, .int x1), (2, .int x2), (3, .int (1000000 : Int32))]) K.1 dX9_findSway_12 rfl (by decide) rfl ?_
  refine V_iconst (v := 0) K.1 dX9_findSway_13 (by decide) ?_
  refine V_istore (L' := [(0, .ref (ω.2.2.1 35)), (1, .int x1), (2, .int x2), (3, .int (1000000 : Int32)), (4, .int (0 : Int32))]) K.1 dX9_findSway_14 (by decide) rfl ?_
  exact k7
set_option maxRecDepth 20000 in
theorem R_X9_findSway_16 {ω : WT} {κ : KT} {l : Launch} {d : Nat} {post : Option Value → St → Prop} {σ : St} {x1 x2 x3 x4 : Int32}  (K : Cm ω κ l yX9_findSway cX9_findSway 8 d (some .int) post) (hdp : 1 ≤ d)
    (k2 : (x4 < 0) → post (some (.int (if (x3 = (1000000 : Int32)) then (-9 : Int32) else x3))) σ)
    (b3 : ¬ (x4 < 0) → vp_in x4 7)
    (b4 : ¬ (x4 < 0) → vp_in x4 7)
    (z5 : ¬ (x4 < 0) → (σ.2.1 50 (x4).toNatClampNeg) = 0 ∨ (σ.2.1 50 (x4).toNatClampNeg) = 1)
    (b6 : ¬ (x4 < 0) → vp_in x4 7)
    (b8 : ¬ (x4 < 0) → vp_in x4 7)
    (b9 : ¬ (x4 < 0) → vp_in x4 7)
    (b10 : ¬ (x4 < 0) → vp_in x4 7)
    (b11 : ¬ (x4 < 0) → (((pA (pS (pS (pS σ 2258 (σ.2.1 49 (x4).toNatClampNeg)) 2259 (σ.2.1 50 (x4).toNatClampNeg)) 2260 (σ.2.1 51 (x4).toNatClampNeg)) 53 (x4).toNatClampNeg ((σ.2.1 53 (x4).toNatClampNeg) + (1 : Int32))).2.1 53 (x4).toNatClampNeg) < ((1 : Int32) <<< ((F_bits (if ((σ.2.1 50 (x4).toNatClampNeg) = 0) then (x1 &&& (σ.2.1 49 (x4).toNatClampNeg)) else (0 : Int32)) 20) &&& 31))) → vp_in x4 7)
    (k12 : ¬ (x4 < 0) → (((pA (pS (pS (pS σ 2258 (σ.2.1 49 (x4).toNatClampNeg)) 2259 (σ.2.1 50 (x4).toNatClampNeg)) 2260 (σ.2.1 51 (x4).toNatClampNeg)) 53 (x4).toNatClampNeg ((σ.2.1 53 (x4).toNatClampNeg) + (1 : Int32))).2.1 53 (x4).toNatClampNeg) < ((1 : Int32) <<< ((F_bits (if ((σ.2.1 50 (x4).toNatClampNeg) = 0) then (x1 &&& (σ.2.1 49 (x4).toNatClampNeg)) else (0 : Int32)) 20) &&& 31))) → V ω κ 116 [(0, .ref (ω.2.2.1 35)), (1, .int x1), (2, .int x2), (3, .int x3), (4, .int x4), (5, .int (if ((σ.2.1 50 (x4).toNatClampNeg) = 0) then (x1 &&& (σ.2.1 49 (x4).toNatClampNeg)) else (0 : Int32)))] [.int (if ((σ.2.1 50 (x4).toNatClampNeg) = 0) then (x1 &&& (σ.2.1 49 (x4).toNatClampNeg)) else (0 : Int32)), .int ((pA (pS (pS (pS σ 2258 (σ.2.1 49 (x4).toNatClampNeg)) 2259 (σ.2.1 50 (x4).toNatClampNeg)) 2260 (σ.2.1 51 (x4).toNatClampNeg)) 53 (x4).toNatClampNeg ((σ.2.1 53 (x4).toNatClampNeg) + (1 : Int32))).2.1 53 (x4).toNatClampNeg)] (pA (pS (pS (pS σ 2258 (σ.2.1 49 (x4).toNatClampNeg)) 2259 (σ.2.1 50 (x4).toNatClampNeg)) 2260 (σ.2.1 51 (x4).toNatClampNeg)) 53 (x4).toNatClampNeg ((σ.2.1 53 (x4).toNatClampNeg) + (1 : Int32))))
    (k13 : ¬ (x4 < 0) → ¬ (((pA (pS (pS (pS σ 2258 (σ.2.1 49 (x4).toNatClampNeg)) 2259 (σ.2.1 50 (x4).toNatClampNeg)) 2260 (σ.2.1 51 (x4).toNatClampNeg)) 53 (x4).toNatClampNeg ((σ.2.1 53 (x4).toNatClampNeg) + (1 : Int32))).2.1 53 (x4).toNatClampNeg) < ((1 : Int32) <<< ((F_bits (if ((σ.2.1 50 (x4).toNatClampNeg) = 0) then (x1 &&& (σ.2.1 49 (x4).toNatClampNeg)) else (0 : Int32)) 20) &&& 31))) → V ω κ 16 [(0, .ref (ω.2.2.1 35)), (1, .int x1), (2, .int x2), (3, .int x3), (4, .int (x4 + -1))] [] (pA (pS (pS (pS σ 2258 (σ.2.1 49 (x4).toNatClampNeg)) 2259 (σ.2.1 50 (x4).toNatClampNeg)) 2260 (σ.2.1 51 (x4).toNatClampNeg)) 53 (x4).toNatClampNeg ((σ.2.1 53 (x4).toNatClampNeg) + (1 : Int32)))) :
    V ω κ 16 [(0, .ref (ω.2.2.1 35)), (1, .int x1), (2, .int x2), (3, .int x3), (4, .int x4)] [] σ := by
  refine V_iload 4 K.1 dX9_findSway_16 rfl ?_
  refine V_if_lt (tgt := 208) K.1 dX9_findSway_18 (by decide) (fun c18 => ?_) (fun c18 => ?_)
  · refine V_iload_n 3 K.1 dX9_findSway_208 rfl rfl ?_
    refine V_ldc K.1 dX9_findSway_209 cn_X9_234 ?_
    refine V_join (J := 220) (S := []) (v := .int (if (x3 = (1000000 : Int32)) then (-9 : Int32) else x3)) (fun hJ1 => ?_) ?_
    · refine V_icmp_ne (tgt := 219) K.1 dX9_findSway_211 (by decide) (fun c211 => ?_) (fun c211 => ?_)
      · refine V_iload_n 3 K.1 dX9_findSway_219 rfl rfl ?_
        exact V_top (if_neg c211) hJ1
      · refine V_bipush (v := -9) K.1 dX9_findSway_214 (by decide) ?_
        refine V_goto (tgt := 220) K.1 dX9_findSway_216 (by decide) ?_
        exact V_top (if_pos c211) hJ1
    exact V_iret K dX9_findSway_220 (k2 c18)
  · refine V_aload_n 0 K.1 dX9_findSway_21 rfl rfl ?_
    refine V_aload_n 0 K.1 dX9_findSway_22 rfl rfl ?_
    refine V_get (v := .ref (ω.2.2.1 49)) K.1 dX9_findSway_23 rfl rfl fw_X9_49 rfl rfl ?_
    refine V_iload 4 K.1 dX9_findSway_26 rfl ?_
    refine V_iaload (v := (σ.2.1 49 (x4).toNatClampNeg)) K.1 dX9_findSway_28 rfl (b3 c18) rfl ?_
    refine V_putI (key := 2258) K.1 dX9_findSway_29 rfl rfl fw_X9_154 pw_X9_18 rfl rfl rfl rfl ?_
    refine V_aload_n 0 K.1 dX9_findSway_32 rfl rfl ?_
    refine V_aload_n 0 K.1 dX9_findSway_33 rfl rfl ?_
    refine V_get (v := .ref (ω.2.2.1 50)) K.1 dX9_findSway_34 rfl rfl fw_X9_52 rfl rfl ?_
    refine V_iload 4 K.1 dX9_findSway_37 rfl ?_
    refine V_baload (v := (σ.2.1 50 (x4).toNatClampNeg)) K.1 dX9_findSway_39 rfl (b4 c18) rfl ?_
    refine V_putI (key := 2259) K.1 dX9_findSway_40 rfl rfl fw_X9_157 pw_X9_19 rfl (narZ (z5 c18)) (fitZ (z5 c18)) rfl ?_
    refine V_aload_n 0 K.1 dX9_findSway_43 rfl rfl ?_
    refine V_aload_n 0 K.1 dX9_findSway_44 rfl rfl ?_
    refine V_get (v := .ref (ω.2.2.1 51)) K.1 dX9_findSway_45 rfl rfl fw_X9_56 rfl rfl ?_
    refine V_iload 4 K.1 dX9_findSway_48 rfl ?_
    refine V_iaload (v := (σ.2.1 51 (x4).toNatClampNeg)) K.1 dX9_findSway_50 rfl (b6 c18) rfl ?_
    refine V_putI (key := 2260) K.1 dX9_findSway_51 rfl rfl fw_X9_161 pw_X9_20 rfl rfl rfl rfl ?_
    refine V_aload_n 0 K.1 dX9_findSway_54 rfl rfl ?_
    refine V_get (v := .int (σ.2.1 50 (x4).toNatClampNeg)) K.1 dX9_findSway_55 rfl rfl fw_X9_157 rfl rfl ?_
    refine V_join (J := 71) (S := []) (v := .int (if ((σ.2.1 50 (x4).toNatClampNeg) = 0) then (x1 &&& (σ.2.1 49 (x4).toNatClampNeg)) else (0 : Int32))) (fun hJ7 => ?_) ?_
    · refine V_if_eq (tgt := 65) K.1 dX9_findSway_58 (by decide) (fun c58 => ?_) (fun c58 => ?_)
      · refine V_iload_n 1 K.1 dX9_findSway_65 rfl rfl ?_
        refine V_aload_n 0 K.1 dX9_findSway_66 rfl rfl ?_
        refine V_get (v := .int (σ.2.1 49 (x4).toNatClampNeg)) K.1 dX9_findSway_67 rfl rfl fw_X9_154 rfl rfl ?_
        refine V_iand K.1 dX9_findSway_70 ?_
        exact V_top (if_pos c58) hJ7
      · refine V_iconst (v := 0) K.1 dX9_findSway_61 (by decide) ?_
        refine V_goto (tgt := 71) K.1 dX9_findSway_62 (by decide) ?_
        exact V_top (if_neg c58) hJ7
    refine V_istore (L' := [(0, .ref (ω.2.2.1 35)), (1, .int x1), (2, .int x2), (3, .int x3), (4, .int x4), (5, .int (if ((σ.2.1 50 (x4).toNatClampNeg) = 0) then (x1 &&& (σ.2.1 49 (x4).toNatClampNeg)) else (0 : Int32)))]) K.1 dX9_findSway_71 (by decide) rfl ?_
    refine V_aload_n 0 K.1 dX9_findSway_73 rfl rfl ?_
    refine V_get (v := .ref (ω.2.2.1 53)) K.1 dX9_findSway_74 rfl rfl fw_X9_62 rfl rfl ?_
    refine V_iload 4 K.1 dX9_findSway_77 rfl ?_
    refine V_dup2 K.1 dX9_findSway_79 rfl rfl ?_
    refine V_iaload (v := (σ.2.1 53 (x4).toNatClampNeg)) K.1 dX9_findSway_80 rfl (b8 c18) rfl ?_
    refine V_iconst (v := 1) K.1 dX9_findSway_81 (by decide) ?_
    refine V_iadd K.1 dX9_findSway_82 ?_
    refine V_iastore K.1 dX9_findSway_83 rfl (b9 c18) ?_
    refine V_aload_n 0 K.1 dX9_findSway_84 rfl rfl ?_
    refine V_get (v := .ref (ω.2.2.1 53)) K.1 dX9_findSway_85 rfl rfl fw_X9_62 rfl rfl ?_
    refine V_iload 4 K.1 dX9_findSway_88 rfl ?_
    refine V_iaload (v := ((pA (pS (pS (pS σ 2258 (σ.2.1 49 (x4).toNatClampNeg)) 2259 (σ.2.1 50 (x4).toNatClampNeg)) 2260 (σ.2.1 51 (x4).toNatClampNeg)) 53 (x4).toNatClampNeg ((σ.2.1 53 (x4).toNatClampNeg) + (1 : Int32))).2.1 53 (x4).toNatClampNeg)) K.1 dX9_findSway_90 rfl (b10 c18) rfl ?_
    refine V_iconst (v := 1) K.1 dX9_findSway_91 (by decide) ?_
    refine V_iload 5 K.1 dX9_findSway_92 rfl ?_
    refine V_callS (d' := d - 1) (As := [.int (if ((σ.2.1 50 (x4).toNatClampNeg) = 0) then (x1 &&& (σ.2.1 49 (x4).toNatClampNeg)) else (0 : Int32))]) K.1 dX9_findSway_94 cw_X9_235 rfl (by omega) rfl (by simp [Value.category]) (m_X9_bits K.1.wf (by omega)) (go_I ?_)
    refine V_ishl K.1 dX9_findSway_97 ?_
    refine V_icmp_lt (tgt := 107) K.1 dX9_findSway_98 (by decide) (fun c98 => ?_) (fun c98 => ?_)
    · refine V_aload_n 0 K.1 dX9_findSway_107 rfl rfl ?_
      refine V_get (v := .ref (ω.2.2.1 53)) K.1 dX9_findSway_108 rfl rfl fw_X9_62 rfl rfl ?_
      refine V_iload 4 K.1 dX9_findSway_111 rfl ?_
      refine V_iaload (v := ((pA (pS (pS (pS σ 2258 (σ.2.1 49 (x4).toNatClampNeg)) 2259 (σ.2.1 50 (x4).toNatClampNeg)) 2260 (σ.2.1 51 (x4).toNatClampNeg)) 53 (x4).toNatClampNeg ((σ.2.1 53 (x4).toNatClampNeg) + (1 : Int32))).2.1 53 (x4).toNatClampNeg)) K.1 dX9_findSway_113 rfl (b11 c18 c98) rfl ?_
      refine V_iload 5 K.1 dX9_findSway_114 rfl ?_
      exact (k12 c18 c98)
    · refine V_iinc (v := (x4 + -1)) (L' := [(0, .ref (ω.2.2.1 35)), (1, .int x1), (2, .int x2), (3, .int x3), (4, .int (x4 + -1)), (5, .int (if ((σ.2.1 50 (x4).toNatClampNeg) = 0) then (x1 &&& (σ.2.1 49 (x4).toNatClampNeg)) else (0 : Int32)))]) 4 K.1 dX9_findSway_101 rfl rfl (by decide) rfl ?_
      refine V_goto (tgt := 16) K.1 dX9_findSway_104 (by decide) ?_
      exact V_sub [0, 1, 2, 3, 4] rfl (k13 c18 c98)
set_option maxRecDepth 20000 in
theorem R_X9_findSway_119 {ω : WT} {κ : KT} {l : Launch} {d : Nat} {post : Option Value → St → Prop} {σ : St} {x1 x2 x3 x4 x5 s0 : Int32}  (K : Cm ω κ l yX9_findSway cX9_findSway 8 d (some .int) post)
    (b1 : vp_in x4 7)
    (b2 : vp_in x4 6)
    (k3 : V ω κ 140 [(0, .ref (ω.2.2.1 35)), (1, .int x1), (2, .int x2), (3, .int x3), (4, .int x4), (6, .int s0)] [.int s0, .int x5, .int (σ.2.1 41 (x4).toNatClampNeg), .ref (ω.2.2.1 35), .int (σ.2.1 52 (x4).toNatClampNeg)] σ) :
    V ω κ 119 [(0, .ref (ω.2.2.1 35)), (1, .int x1), (2, .int x2), (3, .int x3), (4, .int x4), (5, .int x5)] [.int s0] σ := by
  refine V_istore (L' := [(0, .ref (ω.2.2.1 35)), (1, .int x1), (2, .int x2), (3, .int x3), (4, .int x4), (5, .int x5), (6, .int s0)]) K.1 dX9_findSway_119 (by decide) rfl ?_
  refine V_aload_n 0 K.1 dX9_findSway_121 rfl rfl ?_
  refine V_get (v := .ref (ω.2.2.1 52)) K.1 dX9_findSway_122 rfl rfl fw_X9_59 rfl rfl ?_
  refine V_iload 4 K.1 dX9_findSway_125 rfl ?_
  refine V_iaload (v := (σ.2.1 52 (x4).toNatClampNeg)) K.1 dX9_findSway_127 rfl b1 rfl ?_
  refine V_aload_n 0 K.1 dX9_findSway_128 rfl rfl ?_
  refine V_aload_n 0 K.1 dX9_findSway_129 rfl rfl ?_
  refine V_get (v := .ref (ω.2.2.1 41)) K.1 dX9_findSway_130 rfl rfl fw_X9_25 rfl rfl ?_
  refine V_iload 4 K.1 dX9_findSway_133 rfl ?_
  refine V_iaload (v := (σ.2.1 41 (x4).toNatClampNeg)) K.1 dX9_findSway_135 rfl b2 rfl ?_
  refine V_iload 5 K.1 dX9_findSway_136 rfl ?_
  refine V_iload 6 K.1 dX9_findSway_138 rfl ?_
  exact V_sub [0, 1, 2, 3, 4, 6] rfl k3
set_option maxRecDepth 20000 in
theorem R_X9_findSway_143 {ω : WT} {κ : KT} {l : Launch} {d : Nat} {post : Option Value → St → Prop} {σ : St} {x1 x2 x3 x4 x6 s0 s1 : Int32}  (K : Cm ω κ l yX9_findSway cX9_findSway 8 d (some .int) post)
    (b1 : ((s0 + s1) < x3) → vp_in x4 6)
    (k2 : ((s0 + s1) < x3) → V ω κ 166 [(0, .ref (ω.2.2.1 35)), (1, .int x1), (2, .int x2), (3, .int x3), (4, .int x4), (7, .int (s0 + s1))] [.int x6, .int x1, .int (σ.2.1 41 (x4).toNatClampNeg), .ref (ω.2.2.1 35)] σ)
    (k3 : ¬ ((s0 + s1) < x3) → V ω κ 16 [(0, .ref (ω.2.2.1 35)), (1, .int x1), (2, .int x2), (3, .int x3), (4, .int x4)] [] σ) :
    V ω κ 143 [(0, .ref (ω.2.2.1 35)), (1, .int x1), (2, .int x2), (3, .int x3), (4, .int x4), (6, .int x6)] [.int s1, .int s0] σ := by
  refine V_iadd K.1 dX9_findSway_143 ?_
  refine V_istore (L' := [(0, .ref (ω.2.2.1 35)), (1, .int x1), (2, .int x2), (3, .int x3), (4, .int x4), (6, .int x6), (7, .int (s0 + s1))]) K.1 dX9_findSway_144 (by decide) rfl ?_
  refine V_iload 6 K.1 dX9_findSway_146 rfl ?_
  refine V_iload_n 3 K.1 dX9_findSway_148 rfl rfl ?_
  refine V_icmp_lt (tgt := 155) K.1 dX9_findSway_149 (by decide) (fun c149 => ?_) (fun c149 => ?_)
  · refine V_aload_n 0 K.1 dX9_findSway_155 rfl rfl ?_
    refine V_aload_n 0 K.1 dX9_findSway_156 rfl rfl ?_
    refine V_get (v := .ref (ω.2.2.1 41)) K.1 dX9_findSway_157 rfl rfl fw_X9_25 rfl rfl ?_
    refine V_iload 4 K.1 dX9_findSway_160 rfl ?_
    refine V_iaload (v := (σ.2.1 41 (x4).toNatClampNeg)) K.1 dX9_findSway_162 rfl (b1 c149) rfl ?_
    refine V_iload_n 1 K.1 dX9_findSway_163 rfl rfl ?_
    refine V_iload 5 K.1 dX9_findSway_164 rfl ?_
    exact V_sub [0, 1, 2, 3, 4, 6] rfl (k2 c149)
  · refine V_goto (tgt := 16) K.1 dX9_findSway_152 (by decide) ?_
    exact V_sub [0, 1, 2, 3, 4] rfl (k3 c149)
set_option maxRecDepth 20000 in
theorem R_X9_findSway_169 {ω : WT} {κ : KT} {l : Launch} {d : Nat} {post : Option Value → St → Prop} {σ : St} {x1 x2 x3 x4 x7 : Int32}  (K : Cm ω κ l yX9_findSway cX9_findSway 8 d (some .int) post) (hdp : 1 ≤ d)
    (k1 : (((σ.1 2251) - (1 : Int32)) ≤ x4) → ¬ ((σ.1 2265) = x2) → V ω κ 16 [(0, .ref (ω.2.2.1 35)), (1, .int x1), (2, .int x2), (3, .int x3), (4, .int x4)] [] σ)
    (k2 : (((σ.1 2251) - (1 : Int32)) ≤ x4) → ((σ.1 2265) = x2) → V ω κ 16 [(0, .ref (ω.2.2.1 35)), (1, .int x1), (2, .int x2), (3, .int x7), (4, .int x4)] [] σ)
    (p3 : ¬ (((σ.1 2251) - (1 : Int32)) ≤ x4) → vp_in (x4 + 1) 7)
    (p4 : ¬ (((σ.1 2251) - (1 : Int32)) ≤ x4) → vp_in (x4 + 1) 7)
    (p5 : ¬ (((σ.1 2251) - (1 : Int32)) ≤ x4) → (σ.1 2259) = 0 ∨ (σ.1 2259) = 1)
    (p6 : ¬ (((σ.1 2251) - (1 : Int32)) ≤ x4) → vp_in (x4 + 1) 7)
    (p7 : ¬ (((σ.1 2251) - (1 : Int32)) ≤ x4) → vp_in (x4 + 1) 7)
    (p8 : ¬ (((σ.1 2251) - (1 : Int32)) ≤ x4) → vp_in (x4 + 1) 7)
    (k9 : ¬ (((σ.1 2251) - (1 : Int32)) ≤ x4) → V ω κ 16 [(0, .ref (ω.2.2.1 35)), (1, .int x1), (2, .int x2), (3, .int x3), (4, .int (x4 + 1))] [] (pA (pA (pA (pA (pA σ 49 ((x4 + 1)).toNatClampNeg (σ.1 2258)) 50 ((x4 + 1)).toNatClampNeg (σ.1 2259)) 51 ((x4 + 1)).toNatClampNeg (σ.1 2260)) 52 ((x4 + 1)).toNatClampNeg x7) 53 ((x4 + 1)).toNatClampNeg (-1 : Int32))) :
    V ω κ 169 [(0, .ref (ω.2.2.1 35)), (1, .int x1), (2, .int x2), (3, .int x3), (4, .int x4), (7, .int x7)] [] σ := by
  refine V_iload 4 K.1 dX9_findSway_169 rfl ?_
  refine V_aload_n 0 K.1 dX9_findSway_171 rfl rfl ?_
  refine V_get (v := .int (σ.1 2251)) K.1 dX9_findSway_172 rfl rfl fw_X9_130 rfl rfl ?_
  refine V_iconst (v := 1) K.1 dX9_findSway_175 (by decide) ?_
  refine V_isub K.1 dX9_findSway_176 ?_
  refine V_icmp_ge (tgt := 194) K.1 dX9_findSway_177 (by decide) (fun c177 => ?_) (fun c177 => ?_)
  · refine V_aload_n 0 K.1 dX9_findSway_194 rfl rfl ?_
    refine V_get (v := .int (σ.1 2265)) K.1 dX9_findSway_195 rfl rfl fw_X9_180 rfl rfl ?_
    refine V_iload_n 2 K.1 dX9_findSway_198 rfl rfl ?_
    refine V_icmp_ne (tgt := 205) K.1 dX9_findSway_199 (by decide) (fun c199 => ?_) (fun c199 => ?_)
    · refine V_goto (tgt := 16) K.1 dX9_findSway_205 (by decide) ?_
      exact V_sub [0, 1, 2, 3, 4] rfl (k1 c177 c199)
    · refine V_iload 5 K.1 dX9_findSway_202 rfl ?_
      refine V_istore_n (L' := [(0, .ref (ω.2.2.1 35)), (1, .int x1), (2, .int x2), (3, .int x7), (4, .int x4), (7, .int x7)]) K.1 dX9_findSway_204 rfl (by decide) rfl ?_
      refine V_goto (tgt := 16) K.1 dX9_findSway_205 (by decide) ?_
      exact V_sub [0, 1, 2, 3, 4] rfl (k2 c177 c199)
  · refine V_iinc (v := (x4 + 1)) (L' := [(0, .ref (ω.2.2.1 35)), (1, .int x1), (2, .int x2), (3, .int x3), (4, .int (x4 + 1)), (7, .int x7)]) 4 K.1 dX9_findSway_180 rfl rfl (by decide) rfl ?_
    refine V_aload_n 0 K.1 dX9_findSway_183 rfl rfl ?_
    refine V_iload 4 K.1 dX9_findSway_184 rfl ?_
    refine V_iload 5 K.1 dX9_findSway_186 rfl ?_
    refine V_callV (d' := d - 1) (As := [.int (x4 + 1), .int x7]) K.1 dX9_findSway_188 cw_X9_230 rfl rfl rfl (by omega) rfl (by simp [Value.category]) (m_X9_keepAhead K.1.wf (by omega) (p3 c177) (p4 c177) (p5 c177) (p6 c177) (p7 c177) (p8 c177)) (go_V ?_)
    refine V_goto (tgt := 205) K.1 dX9_findSway_191 (by decide) ?_
    refine V_goto (tgt := 16) K.1 dX9_findSway_205 (by decide) ?_
    exact V_sub [0, 1, 2, 3, 4] rfl (k9 c177)
set_option maxRecDepth 20000 in
theorem C_X9_findSway_116 {ω : WT} {κ : KT} {l : Launch} {d : Nat} {post : Option Value → St → Prop} {σ : St} {x1 x2 x3 x4 x5 s0 s1 : Int32}  {post' : Option Value → St → Prop} (K : Cm ω κ l yX9_findSway cX9_findSway 8 d (some .int) post) (hdp : 1 ≤ d) (hM : Sp ω l yX9_spread cX9_spread 5 (some .int) (d - 1) [.int s0, .int s1] σ post')
    (kk : ∀ (v : Option Value) (σ' : St), post' v σ' → V ω κ 119 [(0, .ref (ω.2.2.1 35)), (1, .int x1), (2, .int x2), (3, .int x3), (4, .int x4), (5, .int x5)] (v.toList ++ []) σ') : V ω κ 116 [(0, .ref (ω.2.2.1 35)), (1, .int x1), (2, .int x2), (3, .int x3), (4, .int x4), (5, .int x5)] [.int s1, .int s0] σ := by
  exact V_callS (d' := d - 1) (As := [.int s0, .int s1]) (rest := []) K.1 dX9_findSway_116 cw_X9_238 rfl (by omega) rfl (by simp [Value.category]) hM (fun v σ' h => kk v σ' h)
set_option maxRecDepth 20000 in
theorem C_X9_findSway_140 {ω : WT} {κ : KT} {l : Launch} {d : Nat} {post : Option Value → St → Prop} {σ : St} {x1 x2 x3 x4 x6 s0 s2 s3 s4 : Int32}  {post' : Option Value → St → Prop} (K : Cm ω κ l yX9_findSway cX9_findSway 8 d (some .int) post) (hdp : 1 ≤ d) (hM : Sp ω l yX9_lies cX9_lies 6 (some .int) (d - 1) [.ref (ω.2.2.1 35), .int s2, .int s3, .int s4] σ post')
    (kk : ∀ (v : Option Value) (σ' : St), post' v σ' → V ω κ 143 [(0, .ref (ω.2.2.1 35)), (1, .int x1), (2, .int x2), (3, .int x3), (4, .int x4), (6, .int x6)] (v.toList ++ [.int s0]) σ') : V ω κ 140 [(0, .ref (ω.2.2.1 35)), (1, .int x1), (2, .int x2), (3, .int x3), (4, .int x4), (6, .int x6)] [.int s4, .int s3, .int s2, .ref (ω.2.2.1 35), .int s0] σ := by
  exact V_callV (d' := d - 1) (As := [.int s2, .int s3, .int s4]) (rest := [.int s0]) K.1 dX9_findSway_140 cw_X9_242 rfl rfl rfl (by omega) rfl (by simp [Value.category]) hM (fun v σ' h => kk v σ' h)
set_option maxRecDepth 20000 in
theorem C_X9_findSway_166 {ω : WT} {κ : KT} {l : Launch} {d : Nat} {post : Option Value → St → Prop} {σ : St} {x1 x2 x3 x4 x7 s1 s2 s3 : Int32}  {post' : Option Value → St → Prop} (K : Cm ω κ l yX9_findSway cX9_findSway 8 d (some .int) post) (hdp : 1 ≤ d) (hM : Sp ω l yX9_goOn cX9_goOn 4 none (d - 1) [.ref (ω.2.2.1 35), .int s1, .int s2, .int s3] σ post')
    (kk : ∀ (v : Option Value) (σ' : St), post' v σ' → V ω κ 169 [(0, .ref (ω.2.2.1 35)), (1, .int x1), (2, .int x2), (3, .int x3), (4, .int x4), (7, .int x7)] (v.toList ++ []) σ') : V ω κ 166 [(0, .ref (ω.2.2.1 35)), (1, .int x1), (2, .int x2), (3, .int x3), (4, .int x4), (7, .int x7)] [.int s3, .int s2, .int s1, .ref (ω.2.2.1 35)] σ := by
  exact V_callV (d' := d - 1) (As := [.int s1, .int s2, .int s3]) (rest := []) K.1 dX9_findSway_166 cw_X9_202 rfl rfl rfl (by omega) rfl (by simp [Value.category]) hM (fun v σ' h => kk v σ' h)
set_option maxRecDepth 20000 in
theorem R_X9_sway_0 {ω : WT} {κ : KT} {l : Launch} {d : Nat} {post : Option Value → St → Prop} {σ : St} {x1 x2 : Int32}  (K : Cm ω κ l yX9_sway cX9_sway 3 d (some .int) post) (hdp : 1 ≤ d)
    (k1 : (x1 < (1 : Int32)) → post (some (.int (-2 : Int32))) σ)
    (k2 : ¬ (x1 < (1 : Int32)) → ((((1 : Int32) <<< ((σ.1 2245) &&& 31)) - (1 : Int32)) < x1) → post (some (.int (-2 : Int32))) σ)
    (k3 : ¬ (x1 < (1 : Int32)) → ¬ ((((1 : Int32) <<< ((σ.1 2245) &&& 31)) - (1 : Int32)) < x1) → ((3 : Int32) < (F_bits x1 20)) → post (some (.int (-2 : Int32))) σ)
    (k4 : ¬ (x1 < (1 : Int32)) → ¬ ((((1 : Int32) <<< ((σ.1 2245) &&& 31)) - (1 : Int32)) < x1) → ¬ ((3 : Int32) < (F_bits x1 20)) → ¬ ((if (x2 < (0 : Int32)) then (0 : Int32) else (if ((1 : Int32) < x2) then (0 : Int32) else (1 : Int32))) = 0) → ((if ((σ.1 2245) ≤ 0) then (0 : Int32) else (1 : Int32)) = 0) → post (some (.int (-3 : Int32))) σ)
    (k5 : ¬ (x1 < (1 : Int32)) → ¬ ((((1 : Int32) <<< ((σ.1 2245) &&& 31)) - (1 : Int32)) < x1) → ¬ ((3 : Int32) < (F_bits x1 20)) → ¬ ((if (x2 < (0 : Int32)) then (0 : Int32) else (if ((1 : Int32) < x2) then (0 : Int32) else (1 : Int32))) = 0) → ¬ ((if ((σ.1 2245) ≤ 0) then (0 : Int32) else (1 : Int32)) = 0) → V ω κ 43 [] [.int x2, .int x1, .ref (ω.2.2.1 35)] σ)
    (k6 : ¬ (x1 < (1 : Int32)) → ¬ ((((1 : Int32) <<< ((σ.1 2245) &&& 31)) - (1 : Int32)) < x1) → ¬ ((3 : Int32) < (F_bits x1 20)) → ((if (x2 < (0 : Int32)) then (0 : Int32) else (if ((1 : Int32) < x2) then (0 : Int32) else (1 : Int32))) = 0) → post (some (.int (-2 : Int32))) σ) :
    V ω κ 0 [(0, .ref (ω.2.2.1 35)), (1, .int x1), (2, .int x2)] [] σ := by
  refine V_iload_n 1 K.1 dX9_sway_0 rfl rfl ?_
  refine V_iconst (v := 1) K.1 dX9_sway_1 (by decide) ?_
  refine V_icmp_lt (tgt := 30) K.1 dX9_sway_2 (by decide) (fun c2 => ?_) (fun c2 => ?_)
  · refine V_bipush (v := -2) K.1 dX9_sway_30 (by decide) ?_
    exact V_iret K dX9_sway_32 (k1 c2)
  · refine V_iload_n 1 K.1 dX9_sway_5 rfl rfl ?_
    refine V_aload_n 0 K.1 dX9_sway_6 rfl rfl ?_
    refine V_callV (d' := d - 1) (As := []) K.1 dX9_sway_7 cw_X9_150 rfl rfl rfl (by omega) rfl (by simp [Value.category]) (m_X9_everyone K.1.wf (by omega)) (go_I ?_)
    refine V_icmp_gt (tgt := 30) K.1 dX9_sway_10 (by decide) (fun c10 => ?_) (fun c10 => ?_)
    · refine V_bipush (v := -2) K.1 dX9_sway_30 (by decide) ?_
      exact V_iret K dX9_sway_32 (k2 c2 c10)
    · refine V_iload_n 1 K.1 dX9_sway_13 rfl rfl ?_
      refine V_callS (d' := d - 1) (As := [.int x1]) K.1 dX9_sway_14 cw_X9_235 rfl (by omega) rfl (by simp [Value.category]) (m_X9_bits K.1.wf (by omega)) (go_I ?_)
      refine V_iconst (v := 3) K.1 dX9_sway_17 (by decide) ?_
      refine V_icmp_gt (tgt := 30) K.1 dX9_sway_18 (by decide) (fun c18 => ?_) (fun c18 => ?_)
      · refine V_bipush (v := -2) K.1 dX9_sway_30 (by decide) ?_
        exact V_iret K dX9_sway_32 (k3 c2 c10 c18)
      · refine V_iload_n 2 K.1 dX9_sway_21 rfl rfl ?_
        refine V_iconst (v := 0) K.1 dX9_sway_22 (by decide) ?_
        refine V_iconst (v := 1) K.1 dX9_sway_23 (by decide) ?_
        refine V_callS (d' := d - 1) (As := [.int x2, .int (0 : Int32), .int (1 : Int32)]) K.1 dX9_sway_24 cw_X9_87 rfl (by omega) rfl (by simp [Value.category]) (m_X9_within K.1.wf (by omega)) (go_I ?_)
        refine V_if_ne (tgt := 33) K.1 dX9_sway_27 (by decide) (fun c27 => ?_) (fun c27 => ?_)
        · refine V_aload_n 0 K.1 dX9_sway_33 rfl rfl ?_
          refine V_callV (d' := d - 1) (As := []) K.1 dX9_sway_34 cw_X9_146 rfl rfl rfl (by omega) rfl (by simp [Value.category]) (m_X9_isTown K.1.wf (by omega)) (go_I ?_)
          refine V_if_eq (tgt := 49) K.1 dX9_sway_37 (by decide) (fun c37 => ?_) (fun c37 => ?_)
          · refine V_bipush (v := -3) K.1 dX9_sway_49 (by decide) ?_
            exact V_iret K dX9_sway_51 (k4 c2 c10 c18 c27 c37)
          · refine V_aload_n 0 K.1 dX9_sway_40 rfl rfl ?_
            refine V_iload_n 1 K.1 dX9_sway_41 rfl rfl ?_
            refine V_iload_n 2 K.1 dX9_sway_42 rfl rfl ?_
            exact V_sub [] rfl (k5 c2 c10 c18 c27 c37)
        · refine V_bipush (v := -2) K.1 dX9_sway_30 (by decide) ?_
          exact V_iret K dX9_sway_32 (k6 c2 c10 c18 c27)
set_option maxRecDepth 20000 in
theorem R_X9_sway_46 {ω : WT} {κ : KT} {l : Launch} {d : Nat} {post : Option Value → St → Prop} {σ : St} {s0 : Int32}  (K : Cm ω κ l yX9_sway cX9_sway 3 d (some .int) post)
    (k1 : post (some (.int s0)) σ) :
    V ω κ 46 [] [.int s0] σ := by
  refine V_goto (tgt := 51) K.1 dX9_sway_46 (by decide) ?_
  exact V_iret K dX9_sway_51 k1
set_option maxRecDepth 20000 in
theorem C_X9_sway_43 {ω : WT} {κ : KT} {l : Launch} {d : Nat} {post : Option Value → St → Prop} {σ : St} {s1 s2 : Int32}  {post' : Option Value → St → Prop} (K : Cm ω κ l yX9_sway cX9_sway 3 d (some .int) post) (hdp : 1 ≤ d) (hM : Sp ω l yX9_findSway cX9_findSway 8 (some .int) (d - 1) [.ref (ω.2.2.1 35), .int s1, .int s2] σ post')
    (kk : ∀ (v : Option Value) (σ' : St), post' v σ' → V ω κ 46 [] (v.toList ++ []) σ') : V ω κ 43 [] [.int s2, .int s1, .ref (ω.2.2.1 35)] σ := by
  exact V_callV (d' := d - 1) (As := [.int s1, .int s2]) (rest := []) K.1 dX9_sway_43 cw_X9_246 rfl rfl rfl (by omega) rfl (by simp [Value.category]) hM (fun v σ' h => kk v σ' h)
