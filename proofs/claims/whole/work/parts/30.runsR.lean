set_option maxRecDepth 20000 in
theorem R_X8_vote_0 {ω : WT} {κ : KT} {l : Launch} {d : Nat} {post : Option Value → St → Prop} {σ : St} {x1 x2 : Int32}  (K : Cm ω κ l yX8_vote cX8_vote 3 d (some .int) post)
    (k1 : (x1 < 0) → post (some (.int (-1 : Int32))) σ)
    (k2 : ¬ (x1 < 0) → (x1 < (σ.1 644)) → (x2 < 0) → post (some (.int (-2 : Int32))) σ)
    (k3 : ¬ (x1 < 0) → (x1 < (σ.1 644)) → ¬ (x2 < 0) → (x2 ≤ (4 : Int32)) → V ω κ 30 [(0, .ref (ω.2.2.1 0)), (1, .int x1), (2, .int x2)] [.ref (ω.2.2.1 0)] σ)
    (k4 : ¬ (x1 < 0) → (x1 < (σ.1 644)) → ¬ (x2 < 0) → ¬ (x2 ≤ (4 : Int32)) → post (some (.int (-2 : Int32))) σ)
    (k5 : ¬ (x1 < 0) → ¬ (x1 < (σ.1 644)) → post (some (.int (-1 : Int32))) σ) :
    V ω κ 0 [(0, .ref (ω.2.2.1 0)), (1, .int x1), (2, .int x2)] [] σ := by
  refine V_iload_n 1 K.1 dX8_vote_0 rfl rfl ?_
  refine V_if_lt (tgt := 15) K.1 dX8_vote_1 (by decide) (fun c1 => ?_) (fun c1 => ?_)
  · refine V_iconst (v := -1) K.1 dX8_vote_15 (by decide) ?_
    exact V_iret K dX8_vote_16 (k1 c1)
  · refine V_iload_n 1 K.1 dX8_vote_4 rfl rfl ?_
    refine V_aload_n 0 K.1 dX8_vote_5 rfl rfl ?_
    refine V_get (v := .ref (ω.2.2.1 10)) K.1 dX8_vote_6 rfl rfl fw_X8_21 rfl rfl ?_
    refine V_get (v := .int (σ.1 644)) K.1 dX8_vote_9 rfl rfl fw_X8_120 rfl rfl ?_
    refine V_icmp_lt (tgt := 17) K.1 dX8_vote_12 (by decide) (fun c12 => ?_) (fun c12 => ?_)
    · refine V_iload_n 2 K.1 dX8_vote_17 rfl rfl ?_
      refine V_if_lt (tgt := 26) K.1 dX8_vote_18 (by decide) (fun c18 => ?_) (fun c18 => ?_)
      · refine V_bipush (v := -2) K.1 dX8_vote_26 (by decide) ?_
        exact V_iret K dX8_vote_28 (k2 c1 c12 c18)
      · refine V_iload_n 2 K.1 dX8_vote_21 rfl rfl ?_
        refine V_iconst (v := 4) K.1 dX8_vote_22 (by decide) ?_
        refine V_icmp_le (tgt := 29) K.1 dX8_vote_23 (by decide) (fun c23 => ?_) (fun c23 => ?_)
        · refine V_aload_n 0 K.1 dX8_vote_29 rfl rfl ?_
          exact (k3 c1 c12 c18 c23)
        · refine V_bipush (v := -2) K.1 dX8_vote_26 (by decide) ?_
          exact V_iret K dX8_vote_28 (k4 c1 c12 c18 c23)
    · refine V_iconst (v := -1) K.1 dX8_vote_15 (by decide) ?_
      exact V_iret K dX8_vote_16 (k5 c1 c12)
set_option maxRecDepth 20000 in
theorem R_X8_vote_33 {ω : WT} {κ : KT} {l : Launch} {d : Nat} {post : Option Value → St → Prop} {σ : St} {x1 x2 s0 : Int32}  (K : Cm ω κ l yX8_vote cX8_vote 3 d (some .int) post)
    (b1 : (x2 = 0) → vp_in x1 6)
    (k2 : (x2 = 0) → post (some (.int (σ.2.1 13 (x1).toNatClampNeg))) σ)
    (b3 : ¬ (x2 = 0) → (x2 = 1) → vp_in x1 6)
    (k4 : ¬ (x2 = 0) → (x2 = 1) → post (some (.int (σ.2.1 16 (x1).toNatClampNeg))) σ)
    (b5 : ¬ (x2 = 0) → ¬ (x2 = 1) → (x2 = 2) → vp_in x1 6)
    (k6 : ¬ (x2 = 0) → ¬ (x2 = 1) → (x2 = 2) → post (some (.int (σ.2.1 17 (x1).toNatClampNeg))) σ)
    (b7 : ¬ (x2 = 0) → ¬ (x2 = 1) → ¬ (x2 = 2) → (x2 = 3) → vp_in x1 6)
    (k8 : ¬ (x2 = 0) → ¬ (x2 = 1) → ¬ (x2 = 2) → (x2 = 3) → post (some (.int (σ.2.1 18 (x1).toNatClampNeg))) σ)
    (b9 : ¬ (x2 = 0) → ¬ (x2 = 1) → ¬ (x2 = 2) → ¬ (x2 = 3) → vp_in x1 6)
    (k10 : ¬ (x2 = 0) → ¬ (x2 = 1) → ¬ (x2 = 2) → ¬ (x2 = 3) → post (some (.int (σ.2.1 19 (x1).toNatClampNeg))) σ) :
    V ω κ 33 [(0, .ref (ω.2.2.1 0)), (1, .int x1), (2, .int x2)] [.int s0] σ := by
  refine V_pop K.1 dX8_vote_33 rfl ?_
  refine V_iload_n 2 K.1 dX8_vote_34 rfl rfl ?_
  by_cases c35_0 : x2 = 0
  · refine V_tableIn (off := 29) (tgt := 64) K.1 dX8_vote_35 (by rw [c35_0]; decide) (by rw [c35_0]; decide) (by rw [c35_0]; decide) (by decide) ?_
    refine V_aload_n 0 K.1 dX8_vote_64 rfl rfl ?_
    refine V_get (v := .ref (ω.2.2.1 10)) K.1 dX8_vote_65 rfl rfl fw_X8_21 rfl rfl ?_
    refine V_get (v := .ref (ω.2.2.1 13)) K.1 dX8_vote_68 rfl rfl fw_X8_127 rfl rfl ?_
    refine V_iload_n 1 K.1 dX8_vote_71 rfl rfl ?_
    refine V_iaload (v := (σ.2.1 13 (x1).toNatClampNeg)) K.1 dX8_vote_72 rfl (b1 c35_0) rfl ?_
    exact V_iret K dX8_vote_73 (k2 c35_0)
  by_cases c35_1 : x2 = 1
  · refine V_tableIn (off := 39) (tgt := 74) K.1 dX8_vote_35 (by rw [c35_1]; decide) (by rw [c35_1]; decide) (by rw [c35_1]; decide) (by decide) ?_
    refine V_aload_n 0 K.1 dX8_vote_74 rfl rfl ?_
    refine V_get (v := .ref (ω.2.2.1 15)) K.1 dX8_vote_75 rfl rfl fw_X8_39 rfl rfl ?_
    refine V_get (v := .ref (ω.2.2.1 16)) K.1 dX8_vote_78 rfl rfl fw_X8_130 rfl rfl ?_
    refine V_iload_n 1 K.1 dX8_vote_81 rfl rfl ?_
    refine V_iaload (v := (σ.2.1 16 (x1).toNatClampNeg)) K.1 dX8_vote_82 rfl (b3 c35_0 c35_1) rfl ?_
    exact V_iret K dX8_vote_83 (k4 c35_0 c35_1)
  by_cases c35_2 : x2 = 2
  · refine V_tableIn (off := 49) (tgt := 84) K.1 dX8_vote_35 (by rw [c35_2]; decide) (by rw [c35_2]; decide) (by rw [c35_2]; decide) (by decide) ?_
    refine V_aload_n 0 K.1 dX8_vote_84 rfl rfl ?_
    refine V_get (v := .ref (ω.2.2.1 15)) K.1 dX8_vote_85 rfl rfl fw_X8_39 rfl rfl ?_
    refine V_get (v := .ref (ω.2.2.1 17)) K.1 dX8_vote_88 rfl rfl fw_X8_133 rfl rfl ?_
    refine V_iload_n 1 K.1 dX8_vote_91 rfl rfl ?_
    refine V_iaload (v := (σ.2.1 17 (x1).toNatClampNeg)) K.1 dX8_vote_92 rfl (b5 c35_0 c35_1 c35_2) rfl ?_
    exact V_iret K dX8_vote_93 (k6 c35_0 c35_1 c35_2)
  by_cases c35_3 : x2 = 3
  · refine V_tableIn (off := 59) (tgt := 94) K.1 dX8_vote_35 (by rw [c35_3]; decide) (by rw [c35_3]; decide) (by rw [c35_3]; decide) (by decide) ?_
    refine V_aload_n 0 K.1 dX8_vote_94 rfl rfl ?_
    refine V_get (v := .ref (ω.2.2.1 15)) K.1 dX8_vote_95 rfl rfl fw_X8_39 rfl rfl ?_
    refine V_get (v := .ref (ω.2.2.1 18)) K.1 dX8_vote_98 rfl rfl fw_X8_136 rfl rfl ?_
    refine V_iload_n 1 K.1 dX8_vote_101 rfl rfl ?_
    refine V_iaload (v := (σ.2.1 18 (x1).toNatClampNeg)) K.1 dX8_vote_102 rfl (b7 c35_0 c35_1 c35_2 c35_3) rfl ?_
    exact V_iret K dX8_vote_103 (k8 c35_0 c35_1 c35_2 c35_3)
  refine V_tableOut (tgt := 104) K.1 dX8_vote_35 (by have q0 := lv_neT c35_0 (a := 0) (by decide); have q1 := lv_neT c35_1 (a := 1) (by decide); have q2 := lv_neT c35_2 (a := 2) (by decide); have q3 := lv_neT c35_3 (a := 3) (by decide); omega) (by decide) ?_
  refine V_aload_n 0 K.1 dX8_vote_104 rfl rfl ?_
  refine V_get (v := .ref (ω.2.2.1 15)) K.1 dX8_vote_105 rfl rfl fw_X8_39 rfl rfl ?_
  refine V_get (v := .ref (ω.2.2.1 19)) K.1 dX8_vote_108 rfl rfl fw_X8_139 rfl rfl ?_
  refine V_iload_n 1 K.1 dX8_vote_111 rfl rfl ?_
  refine V_iaload (v := (σ.2.1 19 (x1).toNatClampNeg)) K.1 dX8_vote_112 rfl (b9 c35_0 c35_1 c35_2 c35_3) rfl ?_
  exact V_iret K dX8_vote_113 (k10 c35_0 c35_1 c35_2 c35_3)
set_option maxRecDepth 20000 in
theorem C_X8_vote_30 {ω : WT} {κ : KT} {l : Launch} {d : Nat} {post : Option Value → St → Prop} {σ : St} {x1 x2 : Int32}  {post' : Option Value → St → Prop} (K : Cm ω κ l yX8_vote cX8_vote 3 d (some .int) post) (hdp : 1 ≤ d) (hM : Sp ω l yX8_runOnce cX8_runOnce 1 (some .int) (d - 1) [.ref (ω.2.2.1 0)] σ post')
    (kk : ∀ (v : Option Value) (σ' : St), post' v σ' → V ω κ 33 [(0, .ref (ω.2.2.1 0)), (1, .int x1), (2, .int x2)] (v.toList ++ []) σ') : V ω κ 30 [(0, .ref (ω.2.2.1 0)), (1, .int x1), (2, .int x2)] [.ref (ω.2.2.1 0)] σ := by
  exact V_callV (d' := d - 1) (As := []) (rest := []) K.1 dX8_vote_30 cw_X8_123 rfl rfl rfl (by omega) rfl (by simp [Value.category]) hM (fun v σ' h => kk v σ' h)
set_option maxRecDepth 20000 in
theorem R_X9_vote_0 {ω : WT} {κ : KT} {l : Launch} {d : Nat} {post : Option Value → St → Prop} {σ : St} {x1 x2 : Int32}  (K : Cm ω κ l yX9_vote cX9_vote 3 d (some .int) post) (hdp : 1 ≤ d)
    (k1 : ((if ((σ.1 2245) ≤ 0) then (0 : Int32) else (1 : Int32)) = 0) → post (some (.int (-1 : Int32))) σ)
    (k2 : ¬ ((if ((σ.1 2245) ≤ 0) then (0 : Int32) else (1 : Int32)) = 0) → (x1 < 0) → post (some (.int (-1 : Int32))) σ)
    (k3 : ¬ ((if ((σ.1 2245) ≤ 0) then (0 : Int32) else (1 : Int32)) = 0) → ¬ (x1 < 0) → (x1 < (σ.1 2251)) → ¬ ((if (x2 < (0 : Int32)) then (0 : Int32) else (if ((4 : Int32) < x2) then (0 : Int32) else (1 : Int32))) = 0) → V ω κ 34 [(0, .ref (ω.2.2.1 35)), (1, .int x1), (2, .int x2)] [.ref (ω.2.2.1 35)] σ)
    (k4 : ¬ ((if ((σ.1 2245) ≤ 0) then (0 : Int32) else (1 : Int32)) = 0) → ¬ (x1 < 0) → (x1 < (σ.1 2251)) → ((if (x2 < (0 : Int32)) then (0 : Int32) else (if ((4 : Int32) < x2) then (0 : Int32) else (1 : Int32))) = 0) → post (some (.int (-2 : Int32))) σ)
    (k5 : ¬ ((if ((σ.1 2245) ≤ 0) then (0 : Int32) else (1 : Int32)) = 0) → ¬ (x1 < 0) → ¬ (x1 < (σ.1 2251)) → post (some (.int (-1 : Int32))) σ) :
    V ω κ 0 [(0, .ref (ω.2.2.1 35)), (1, .int x1), (2, .int x2)] [] σ := by
  refine V_aload_n 0 K.1 dX9_vote_0 rfl rfl ?_
  refine V_callV (d' := d - 1) (As := []) K.1 dX9_vote_1 cw_X9_146 rfl rfl rfl (by omega) rfl (by simp [Value.category]) (m_X9_isTown K.1.wf (by omega)) (go_I ?_)
  refine V_if_eq (tgt := 19) K.1 dX9_vote_4 (by decide) (fun c4 => ?_) (fun c4 => ?_)
  · refine V_iconst (v := -1) K.1 dX9_vote_19 (by decide) ?_
    exact V_iret K dX9_vote_20 (k1 c4)
  · refine V_iload_n 1 K.1 dX9_vote_7 rfl rfl ?_
    refine V_if_lt (tgt := 19) K.1 dX9_vote_8 (by decide) (fun c8 => ?_) (fun c8 => ?_)
    · refine V_iconst (v := -1) K.1 dX9_vote_19 (by decide) ?_
      exact V_iret K dX9_vote_20 (k2 c4 c8)
    · refine V_iload_n 1 K.1 dX9_vote_11 rfl rfl ?_
      refine V_aload_n 0 K.1 dX9_vote_12 rfl rfl ?_
      refine V_get (v := .int (σ.1 2251)) K.1 dX9_vote_13 rfl rfl fw_X9_130 rfl rfl ?_
      refine V_icmp_lt (tgt := 21) K.1 dX9_vote_16 (by decide) (fun c16 => ?_) (fun c16 => ?_)
      · refine V_iload_n 2 K.1 dX9_vote_21 rfl rfl ?_
        refine V_iconst (v := 0) K.1 dX9_vote_22 (by decide) ?_
        refine V_iconst (v := 4) K.1 dX9_vote_23 (by decide) ?_
        refine V_callS (d' := d - 1) (As := [.int x2, .int (0 : Int32), .int (4 : Int32)]) K.1 dX9_vote_24 cw_X9_87 rfl (by omega) rfl (by simp [Value.category]) (m_X9_within K.1.wf (by omega)) (go_I ?_)
        refine V_if_ne (tgt := 33) K.1 dX9_vote_27 (by decide) (fun c27 => ?_) (fun c27 => ?_)
        · refine V_aload_n 0 K.1 dX9_vote_33 rfl rfl ?_
          exact (k3 c4 c8 c16 c27)
        · refine V_bipush (v := -2) K.1 dX9_vote_30 (by decide) ?_
          exact V_iret K dX9_vote_32 (k4 c4 c8 c16 c27)
      · refine V_iconst (v := -1) K.1 dX9_vote_19 (by decide) ?_
        exact V_iret K dX9_vote_20 (k5 c4 c8 c16)
set_option maxRecDepth 20000 in
theorem R_X9_vote_37 {ω : WT} {κ : KT} {l : Launch} {d : Nat} {post : Option Value → St → Prop} {σ : St} {x1 x2 : Int32}  (K : Cm ω κ l yX9_vote cX9_vote 3 d (some .int) post)
    (b1 : (x2 = 0) → vp_in x1 6)
    (k2 : (x2 = 0) → post (some (.int (σ.2.1 41 (x1).toNatClampNeg))) σ)
    (b3 : ¬ (x2 = 0) → (x2 = 1) → vp_in x1 6)
    (k4 : ¬ (x2 = 0) → (x2 = 1) → post (some (.int (σ.2.1 44 (x1).toNatClampNeg))) σ)
    (b5 : ¬ (x2 = 0) → ¬ (x2 = 1) → (x2 = 2) → vp_in x1 6)
    (k6 : ¬ (x2 = 0) → ¬ (x2 = 1) → (x2 = 2) → post (some (.int (σ.2.1 45 (x1).toNatClampNeg))) σ)
    (b7 : ¬ (x2 = 0) → ¬ (x2 = 1) → ¬ (x2 = 2) → (x2 = 3) → vp_in x1 6)
    (k8 : ¬ (x2 = 0) → ¬ (x2 = 1) → ¬ (x2 = 2) → (x2 = 3) → post (some (.int (σ.2.1 46 (x1).toNatClampNeg))) σ)
    (b9 : ¬ (x2 = 0) → ¬ (x2 = 1) → ¬ (x2 = 2) → ¬ (x2 = 3) → vp_in x1 6)
    (k10 : ¬ (x2 = 0) → ¬ (x2 = 1) → ¬ (x2 = 2) → ¬ (x2 = 3) → post (some (.int (σ.2.1 47 (x1).toNatClampNeg))) σ) :
    V ω κ 37 [(0, .ref (ω.2.2.1 35)), (1, .int x1), (2, .int x2)] [] σ := by
  refine V_iload_n 2 K.1 dX9_vote_37 rfl rfl ?_
  by_cases c38_0 : x2 = 0
  · refine V_tableIn (off := 30) (tgt := 68) K.1 dX9_vote_38 (by rw [c38_0]; decide) (by rw [c38_0]; decide) (by rw [c38_0]; decide) (by decide) ?_
    refine V_aload_n 0 K.1 dX9_vote_68 rfl rfl ?_
    refine V_get (v := .ref (ω.2.2.1 41)) K.1 dX9_vote_69 rfl rfl fw_X9_25 rfl rfl ?_
    refine V_iload_n 1 K.1 dX9_vote_72 rfl rfl ?_
    refine V_iaload (v := (σ.2.1 41 (x1).toNatClampNeg)) K.1 dX9_vote_73 rfl (b1 c38_0) rfl ?_
    exact V_iret K dX9_vote_74 (k2 c38_0)
  by_cases c38_1 : x2 = 1
  · refine V_tableIn (off := 37) (tgt := 75) K.1 dX9_vote_38 (by rw [c38_1]; decide) (by rw [c38_1]; decide) (by rw [c38_1]; decide) (by decide) ?_
    refine V_aload_n 0 K.1 dX9_vote_75 rfl rfl ?_
    refine V_get (v := .ref (ω.2.2.1 44)) K.1 dX9_vote_76 rfl rfl fw_X9_34 rfl rfl ?_
    refine V_iload_n 1 K.1 dX9_vote_79 rfl rfl ?_
    refine V_iaload (v := (σ.2.1 44 (x1).toNatClampNeg)) K.1 dX9_vote_80 rfl (b3 c38_0 c38_1) rfl ?_
    exact V_iret K dX9_vote_81 (k4 c38_0 c38_1)
  by_cases c38_2 : x2 = 2
  · refine V_tableIn (off := 44) (tgt := 82) K.1 dX9_vote_38 (by rw [c38_2]; decide) (by rw [c38_2]; decide) (by rw [c38_2]; decide) (by decide) ?_
    refine V_aload_n 0 K.1 dX9_vote_82 rfl rfl ?_
    refine V_get (v := .ref (ω.2.2.1 45)) K.1 dX9_vote_83 rfl rfl fw_X9_37 rfl rfl ?_
    refine V_iload_n 1 K.1 dX9_vote_86 rfl rfl ?_
    refine V_iaload (v := (σ.2.1 45 (x1).toNatClampNeg)) K.1 dX9_vote_87 rfl (b5 c38_0 c38_1 c38_2) rfl ?_
    exact V_iret K dX9_vote_88 (k6 c38_0 c38_1 c38_2)
  by_cases c38_3 : x2 = 3
  · refine V_tableIn (off := 51) (tgt := 89) K.1 dX9_vote_38 (by rw [c38_3]; decide) (by rw [c38_3]; decide) (by rw [c38_3]; decide) (by decide) ?_
    refine V_aload_n 0 K.1 dX9_vote_89 rfl rfl ?_
    refine V_get (v := .ref (ω.2.2.1 46)) K.1 dX9_vote_90 rfl rfl fw_X9_40 rfl rfl ?_
    refine V_iload_n 1 K.1 dX9_vote_93 rfl rfl ?_
    refine V_iaload (v := (σ.2.1 46 (x1).toNatClampNeg)) K.1 dX9_vote_94 rfl (b7 c38_0 c38_1 c38_2 c38_3) rfl ?_
    exact V_iret K dX9_vote_95 (k8 c38_0 c38_1 c38_2 c38_3)
  refine V_tableOut (tgt := 96) K.1 dX9_vote_38 (by have q0 := lv_neT c38_0 (a := 0) (by decide); have q1 := lv_neT c38_1 (a := 1) (by decide); have q2 := lv_neT c38_2 (a := 2) (by decide); have q3 := lv_neT c38_3 (a := 3) (by decide); omega) (by decide) ?_
  refine V_aload_n 0 K.1 dX9_vote_96 rfl rfl ?_
  refine V_get (v := .ref (ω.2.2.1 47)) K.1 dX9_vote_97 rfl rfl fw_X9_43 rfl rfl ?_
  refine V_iload_n 1 K.1 dX9_vote_100 rfl rfl ?_
  refine V_iaload (v := (σ.2.1 47 (x1).toNatClampNeg)) K.1 dX9_vote_101 rfl (b9 c38_0 c38_1 c38_2 c38_3) rfl ?_
  exact V_iret K dX9_vote_102 (k10 c38_0 c38_1 c38_2 c38_3)
set_option maxRecDepth 20000 in
theorem C_X9_vote_34 {ω : WT} {κ : KT} {l : Launch} {d : Nat} {post : Option Value → St → Prop} {σ : St} {x1 x2 : Int32}  {post' : Option Value → St → Prop} (K : Cm ω κ l yX9_vote cX9_vote 3 d (some .int) post) (hdp : 1 ≤ d) (hM : Sp ω l yX9_goFirst cX9_goFirst 1 none (d - 1) [.ref (ω.2.2.1 35)] σ post')
    (kk : ∀ (v : Option Value) (σ' : St), post' v σ' → V ω κ 37 [(0, .ref (ω.2.2.1 35)), (1, .int x1), (2, .int x2)] (v.toList ++ []) σ') : V ω κ 34 [(0, .ref (ω.2.2.1 35)), (1, .int x1), (2, .int x2)] [.ref (ω.2.2.1 35)] σ := by
  exact V_callV (d' := d - 1) (As := []) (rest := []) K.1 dX9_vote_34 cw_X9_212 rfl rfl rfl (by omega) rfl (by simp [Value.category]) hM (fun v σ' h => kk v σ' h)
set_option maxRecDepth 20000 in
theorem R_X8_decided_0 {ω : WT} {κ : KT} {l : Launch} {d : Nat} {post : Option Value → St → Prop} {σ : St} {x1 : Int32}  (K : Cm ω κ l yX8_decided cX8_decided 3 d (some .int) post) (hdp : 1 ≤ d)
    (k1 : ¬ ((if (x1 < 0) then (0 : Int32) else (if ((σ.1 641) ≤ x1) then (0 : Int32) else (1 : Int32))) = 0) → V ω κ 18 [(0, .ref (ω.2.2.1 0))] [.int x1, .ref (ω.2.2.1 10)] σ)
    (k2 : ((if (x1 < 0) then (0 : Int32) else (if ((σ.1 641) ≤ x1) then (0 : Int32) else (1 : Int32))) = 0) → post (some (.int (-1 : Int32))) σ) :
    V ω κ 0 [(0, .ref (ω.2.2.1 0)), (1, .int x1)] [] σ := by
  refine V_aload_n 0 K.1 dX8_decided_0 rfl rfl ?_
  refine V_get (v := .ref (ω.2.2.1 10)) K.1 dX8_decided_1 rfl rfl fw_X8_21 rfl rfl ?_
  refine V_iload_n 1 K.1 dX8_decided_4 rfl rfl ?_
  refine V_callV (d' := d - 1) (As := [.int x1]) K.1 dX8_decided_5 cw_X8_97 rfl rfl rfl (by omega) rfl (by simp [Value.category]) (m_X7_hasMatter K.1.wf (by omega)) (go_I ?_)
  refine V_if_ne (tgt := 13) K.1 dX8_decided_8 (by decide) (fun c8 => ?_) (fun c8 => ?_)
  · refine V_aload_n 0 K.1 dX8_decided_13 rfl rfl ?_
    refine V_get (v := .ref (ω.2.2.1 10)) K.1 dX8_decided_14 rfl rfl fw_X8_21 rfl rfl ?_
    refine V_iload_n 1 K.1 dX8_decided_17 rfl rfl ?_
    exact V_sub [0] rfl (k1 c8)
  · refine V_iconst (v := -1) K.1 dX8_decided_11 (by decide) ?_
    exact V_iret K dX8_decided_12 (k2 c8)
set_option maxRecDepth 20000 in
theorem R_X8_decided_21 {ω : WT} {κ : KT} {l : Launch} {d : Nat} {post : Option Value → St → Prop} {σ : St} {s0 : Int32}  (K : Cm ω κ l yX8_decided cX8_decided 3 d (some .int) post)
    (k1 : (0 ≤ s0) → V ω κ 30 [(0, .ref (ω.2.2.1 0)), (2, .int s0)] [.ref (ω.2.2.1 0)] σ)
    (k2 : ¬ (0 ≤ s0) → post (some (.int (-9 : Int32))) σ) :
    V ω κ 21 [(0, .ref (ω.2.2.1 0))] [.int s0] σ := by
  refine V_istore_n (L' := [(0, .ref (ω.2.2.1 0)), (2, .int s0)]) K.1 dX8_decided_21 rfl (by decide) rfl ?_
  refine V_iload_n 1 K.1 dX8_decided_22 rfl rfl ?_
  refine V_if_ge (tgt := 29) K.1 dX8_decided_23 (by decide) (fun c23 => ?_) (fun c23 => ?_)
  · refine V_aload_n 0 K.1 dX8_decided_29 rfl rfl ?_
    exact (k1 c23)
  · refine V_bipush (v := -9) K.1 dX8_decided_26 (by decide) ?_
    exact V_iret K dX8_decided_28 (k2 c23)
set_option maxRecDepth 20000 in
theorem R_X8_decided_33 {ω : WT} {κ : KT} {l : Launch} {d : Nat} {post : Option Value → St → Prop} {σ : St} {x2 s0 : Int32}  (K : Cm ω κ l yX8_decided cX8_decided 3 d (some .int) post)
    (b1 : vp_in x2 6)
    (k2 : post (some (.int (σ.2.1 18 (x2).toNatClampNeg))) σ) :
    V ω κ 33 [(0, .ref (ω.2.2.1 0)), (2, .int x2)] [.int s0] σ := by
  refine V_pop K.1 dX8_decided_33 rfl ?_
  refine V_aload_n 0 K.1 dX8_decided_34 rfl rfl ?_
  refine V_get (v := .ref (ω.2.2.1 15)) K.1 dX8_decided_35 rfl rfl fw_X8_39 rfl rfl ?_
  refine V_get (v := .ref (ω.2.2.1 18)) K.1 dX8_decided_38 rfl rfl fw_X8_136 rfl rfl ?_
  refine V_iload_n 1 K.1 dX8_decided_41 rfl rfl ?_
  refine V_iaload (v := (σ.2.1 18 (x2).toNatClampNeg)) K.1 dX8_decided_42 rfl b1 rfl ?_
  exact V_iret K dX8_decided_43 k2
set_option maxRecDepth 20000 in
theorem C_X8_decided_18 {ω : WT} {κ : KT} {l : Launch} {d : Nat} {post : Option Value → St → Prop} {σ : St} {s1 : Int32}  {post' : Option Value → St → Prop} (K : Cm ω κ l yX8_decided cX8_decided 3 d (some .int) post) (hdp : 1 ≤ d) (hM : Sp ω l yX7_placeOf cX7_placeOf 3 (some .int) (d - 1) [.ref (ω.2.2.1 10), .int s1] σ post')
    (kk : ∀ (v : Option Value) (σ' : St), post' v σ' → V ω κ 21 [(0, .ref (ω.2.2.1 0))] (v.toList ++ []) σ') : V ω κ 18 [(0, .ref (ω.2.2.1 0))] [.int s1, .ref (ω.2.2.1 10)] σ := by
  exact V_callV (d' := d - 1) (As := [.int s1]) (rest := []) K.1 dX8_decided_18 cw_X8_142 rfl rfl rfl (by omega) rfl (by simp [Value.category]) hM (fun v σ' h => kk v σ' h)
set_option maxRecDepth 20000 in
theorem C_X8_decided_30 {ω : WT} {κ : KT} {l : Launch} {d : Nat} {post : Option Value → St → Prop} {σ : St} {x2 : Int32}  {post' : Option Value → St → Prop} (K : Cm ω κ l yX8_decided cX8_decided 3 d (some .int) post) (hdp : 1 ≤ d) (hM : Sp ω l yX8_runOnce cX8_runOnce 1 (some .int) (d - 1) [.ref (ω.2.2.1 0)] σ post')
    (kk : ∀ (v : Option Value) (σ' : St), post' v σ' → V ω κ 33 [(0, .ref (ω.2.2.1 0)), (2, .int x2)] (v.toList ++ []) σ') : V ω κ 30 [(0, .ref (ω.2.2.1 0)), (2, .int x2)] [.ref (ω.2.2.1 0)] σ := by
  exact V_callV (d' := d - 1) (As := []) (rest := []) K.1 dX8_decided_30 cw_X8_123 rfl rfl rfl (by omega) rfl (by simp [Value.category]) hM (fun v σ' h => kk v σ' h)
set_option maxRecDepth 20000 in
theorem R_X9_decided_0 {ω : WT} {κ : KT} {l : Launch} {d : Nat} {post : Option Value → St → Prop} {σ : St} {x1 : Int32}  (K : Cm ω κ l yX9_decided cX9_decided 3 d (some .int) post) (hdp : 1 ≤ d)
    (k1 : ¬ ((if (x1 < 0) then (0 : Int32) else (if ((σ.1 2246) ≤ x1) then (0 : Int32) else (1 : Int32))) = 0) → V ω κ 12 [(0, .ref (ω.2.2.1 35))] [.int x1, .ref (ω.2.2.1 35)] σ)
    (k2 : ((if (x1 < 0) then (0 : Int32) else (if ((σ.1 2246) ≤ x1) then (0 : Int32) else (1 : Int32))) = 0) → post (some (.int (-1 : Int32))) σ) :
    V ω κ 0 [(0, .ref (ω.2.2.1 35)), (1, .int x1)] [] σ := by
  refine V_aload_n 0 K.1 dX9_decided_0 rfl rfl ?_
  refine V_iload_n 1 K.1 dX9_decided_1 rfl rfl ?_
  refine V_callV (d' := d - 1) (As := [.int x1]) K.1 dX9_decided_2 cw_X9_143 rfl rfl rfl (by omega) rfl (by simp [Value.category]) (m_X9_isMatter K.1.wf (by omega)) (go_I ?_)
  refine V_if_ne (tgt := 10) K.1 dX9_decided_5 (by decide) (fun c5 => ?_) (fun c5 => ?_)
  · refine V_aload_n 0 K.1 dX9_decided_10 rfl rfl ?_
    refine V_iload_n 1 K.1 dX9_decided_11 rfl rfl ?_
    exact V_sub [0] rfl (k1 c5)
  · refine V_iconst (v := -1) K.1 dX9_decided_8 (by decide) ?_
    exact V_iret K dX9_decided_9 (k2 c5)
set_option maxRecDepth 20000 in
theorem R_X9_decided_15 {ω : WT} {κ : KT} {l : Launch} {d : Nat} {post : Option Value → St → Prop} {σ : St} {s0 : Int32}  (K : Cm ω κ l yX9_decided cX9_decided 3 d (some .int) post)
    (k1 : ¬ (s0 = (-9 : Int32)) → V ω κ 26 [(0, .ref (ω.2.2.1 35)), (2, .int s0)] [.ref (ω.2.2.1 35)] σ)
    (k2 : (s0 = (-9 : Int32)) → post (some (.int (-9 : Int32))) σ) :
    V ω κ 15 [(0, .ref (ω.2.2.1 35))] [.int s0] σ := by
  refine V_istore_n (L' := [(0, .ref (ω.2.2.1 35)), (2, .int s0)]) K.1 dX9_decided_15 rfl (by decide) rfl ?_
  refine V_iload_n 1 K.1 dX9_decided_16 rfl rfl ?_
  refine V_bipush (v := -9) K.1 dX9_decided_17 (by decide) ?_
  refine V_icmp_ne (tgt := 25) K.1 dX9_decided_19 (by decide) (fun c19 => ?_) (fun c19 => ?_)
  · refine V_aload_n 0 K.1 dX9_decided_25 rfl rfl ?_
    exact (k1 c19)
  · refine V_bipush (v := -9) K.1 dX9_decided_22 (by decide) ?_
    exact V_iret K dX9_decided_24 (k2 c19)
set_option maxRecDepth 20000 in
theorem R_X9_decided_29 {ω : WT} {κ : KT} {l : Launch} {d : Nat} {post : Option Value → St → Prop} {σ : St} {x2 : Int32}  (K : Cm ω κ l yX9_decided cX9_decided 3 d (some .int) post)
    (b1 : vp_in x2 6)
    (k2 : post (some (.int (σ.2.1 46 (x2).toNatClampNeg))) σ) :
    V ω κ 29 [(0, .ref (ω.2.2.1 35)), (2, .int x2)] [] σ := by
  refine V_aload_n 0 K.1 dX9_decided_29 rfl rfl ?_
  refine V_get (v := .ref (ω.2.2.1 46)) K.1 dX9_decided_30 rfl rfl fw_X9_40 rfl rfl ?_
  refine V_iload_n 1 K.1 dX9_decided_33 rfl rfl ?_
  refine V_iaload (v := (σ.2.1 46 (x2).toNatClampNeg)) K.1 dX9_decided_34 rfl b1 rfl ?_
  exact V_iret K dX9_decided_35 k2
set_option maxRecDepth 20000 in
theorem C_X9_decided_12 {ω : WT} {κ : KT} {l : Launch} {d : Nat} {post : Option Value → St → Prop} {σ : St} {s1 : Int32}  {post' : Option Value → St → Prop} (K : Cm ω κ l yX9_decided cX9_decided 3 d (some .int) post) (hdp : 1 ≤ d) (hM : Sp ω l yX9_placeOf cX9_placeOf 3 (some .int) (d - 1) [.ref (ω.2.2.1 35), .int s1] σ post')
    (kk : ∀ (v : Option Value) (σ' : St), post' v σ' → V ω κ 15 [(0, .ref (ω.2.2.1 35))] (v.toList ++ []) σ') : V ω κ 12 [(0, .ref (ω.2.2.1 35))] [.int s1, .ref (ω.2.2.1 35)] σ := by
  exact V_callV (d' := d - 1) (As := [.int s1]) (rest := []) K.1 dX9_decided_12 cw_X9_215 rfl rfl rfl (by omega) rfl (by simp [Value.category]) hM (fun v σ' h => kk v σ' h)
set_option maxRecDepth 20000 in
theorem C_X9_decided_26 {ω : WT} {κ : KT} {l : Launch} {d : Nat} {post : Option Value → St → Prop} {σ : St} {x2 : Int32}  {post' : Option Value → St → Prop} (K : Cm ω κ l yX9_decided cX9_decided 3 d (some .int) post) (hdp : 1 ≤ d) (hM : Sp ω l yX9_goFirst cX9_goFirst 1 none (d - 1) [.ref (ω.2.2.1 35)] σ post')
    (kk : ∀ (v : Option Value) (σ' : St), post' v σ' → V ω κ 29 [(0, .ref (ω.2.2.1 35)), (2, .int x2)] (v.toList ++ []) σ') : V ω κ 26 [(0, .ref (ω.2.2.1 35)), (2, .int x2)] [.ref (ω.2.2.1 35)] σ := by
  exact V_callV (d' := d - 1) (As := []) (rest := []) K.1 dX9_decided_26 cw_X9_212 rfl rfl rfl (by omega) rfl (by simp [Value.category]) hM (fun v σ' h => kk v σ' h)
set_option maxRecDepth 20000 in
theorem R_X8_sits_0 {ω : WT} {κ : KT} {l : Launch} {d : Nat} {post : Option Value → St → Prop} {σ : St}  (K : Cm ω κ l yX8_sits cX8_sits 2 d (some .int) post) (hdp : 1 ≤ d)
    (k1 : ¬ ((if ((σ.1 640) ≤ 0) then (0 : Int32) else (1 : Int32)) = 0) → V ω κ 14 [] [.ref (ω.2.2.1 0)] σ)
    (k2 : ((if ((σ.1 640) ≤ 0) then (0 : Int32) else (1 : Int32)) = 0) → post (some (.int (-3 : Int32))) σ) :
    V ω κ 0 [(0, .ref (ω.2.2.1 0))] [] σ := by
  refine V_aload_n 0 K.1 dX8_sits_0 rfl rfl ?_
  refine V_get (v := .ref (ω.2.2.1 10)) K.1 dX8_sits_1 rfl rfl fw_X8_21 rfl rfl ?_
  refine V_callV (d' := d - 1) (As := []) K.1 dX8_sits_4 cw_X8_107 rfl rfl rfl (by omega) rfl (by simp [Value.category]) (m_X7_stands K.1.wf (by omega)) (go_I ?_)
  refine V_if_ne (tgt := 13) K.1 dX8_sits_7 (by decide) (fun c7 => ?_) (fun c7 => ?_)
  · refine V_aload_n 0 K.1 dX8_sits_13 rfl rfl ?_
    exact V_sub [] rfl (k1 c7)
  · refine V_bipush (v := -3) K.1 dX8_sits_10 (by decide) ?_
    exact V_iret K dX8_sits_12 (k2 c7)
set_option maxRecDepth 20000 in
theorem R_X8_sits_17 {ω : WT} {κ : KT} {l : Launch} {d : Nat} {post : Option Value → St → Prop} {σ : St} {s0 : Int32}  (K : Cm ω κ l yX8_sits cX8_sits 2 d (some .int) post) (hdp : 1 ≤ d)
    (k2 : post (some (.int (if ((s0 &&& (255 : Int32)) = 0) then (-6 : Int32) else (s0 &&& (255 : Int32))))) σ) :
    V ω κ 17 [] [.int s0] σ := by
  refine V_callS (d' := d - 1) (As := [.int s0]) K.1 dX8_sits_17 cw_X8_146 rfl (by omega) rfl (by simp [Value.category]) (m_X2_sittingAt K.1.wf (by omega)) (go_I ?_)
  refine V_istore_n (L' := [(1, .int (s0 &&& (255 : Int32)))]) K.1 dX8_sits_20 rfl (by decide) rfl ?_
  refine V_iload_n 0 K.1 dX8_sits_21 rfl rfl ?_
  refine V_join (J := 31) (S := []) (v := .int (if ((s0 &&& (255 : Int32)) = 0) then (-6 : Int32) else (s0 &&& (255 : Int32)))) (fun hJ1 => ?_) ?_
  · refine V_if_ne (tgt := 30) K.1 dX8_sits_22 (by decide) (fun c22 => ?_) (fun c22 => ?_)
    · refine V_iload_n 0 K.1 dX8_sits_30 rfl rfl ?_
      exact V_top (if_neg c22) hJ1
    · refine V_bipush (v := -6) K.1 dX8_sits_25 (by decide) ?_
      refine V_goto (tgt := 31) K.1 dX8_sits_27 (by decide) ?_
      exact V_top (if_pos c22) hJ1
  exact V_iret K dX8_sits_31 k2
set_option maxRecDepth 20000 in
theorem C_X8_sits_14 {ω : WT} {κ : KT} {l : Launch} {d : Nat} {post : Option Value → St → Prop} {σ : St}  {post' : Option Value → St → Prop} (K : Cm ω κ l yX8_sits cX8_sits 2 d (some .int) post) (hdp : 1 ≤ d) (hM : Sp ω l yX8_runOnce cX8_runOnce 1 (some .int) (d - 1) [.ref (ω.2.2.1 0)] σ post')
    (kk : ∀ (v : Option Value) (σ' : St), post' v σ' → V ω κ 17 [] (v.toList ++ []) σ') : V ω κ 14 [] [.ref (ω.2.2.1 0)] σ := by
  exact V_callV (d' := d - 1) (As := []) (rest := []) K.1 dX8_sits_14 cw_X8_123 rfl rfl rfl (by omega) rfl (by simp [Value.category]) hM (fun v σ' h => kk v σ' h)
set_option maxRecDepth 20000 in
theorem R_X9_sits_0 {ω : WT} {κ : KT} {l : Launch} {d : Nat} {post : Option Value → St → Prop} {σ : St}  (K : Cm ω κ l yX9_sits cX9_sits 1 d (some .int) post) (hdp : 1 ≤ d)
    (k1 : ¬ ((if ((σ.1 2245) ≤ 0) then (0 : Int32) else (1 : Int32)) = 0) → V ω κ 11 [(0, .ref (ω.2.2.1 35))] [.ref (ω.2.2.1 35)] σ)
    (k2 : ((if ((σ.1 2245) ≤ 0) then (0 : Int32) else (1 : Int32)) = 0) → post (some (.int (-3 : Int32))) σ) :
    V ω κ 0 [(0, .ref (ω.2.2.1 35))] [] σ := by
  refine V_aload_n 0 K.1 dX9_sits_0 rfl rfl ?_
  refine V_callV (d' := d - 1) (As := []) K.1 dX9_sits_1 cw_X9_146 rfl rfl rfl (by omega) rfl (by simp [Value.category]) (m_X9_isTown K.1.wf (by omega)) (go_I ?_)
  refine V_if_ne (tgt := 10) K.1 dX9_sits_4 (by decide) (fun c4 => ?_) (fun c4 => ?_)
  · refine V_aload_n 0 K.1 dX9_sits_10 rfl rfl ?_
    exact (k1 c4)
  · refine V_bipush (v := -3) K.1 dX9_sits_7 (by decide) ?_
    exact V_iret K dX9_sits_9 (k2 c4)
set_option maxRecDepth 20000 in
theorem R_X9_sits_14 {ω : WT} {κ : KT} {l : Launch} {d : Nat} {post : Option Value → St → Prop} {σ : St}  (K : Cm ω κ l yX9_sits cX9_sits 1 d (some .int) post)
    (k2 : post (some (.int (if ((σ.1 2259) = 0) then (σ.1 2258) else (-6 : Int32)))) σ) :
    V ω κ 14 [(0, .ref (ω.2.2.1 35))] [] σ := by
  refine V_aload_n 0 K.1 dX9_sits_14 rfl rfl ?_
  refine V_get (v := .int (σ.1 2259)) K.1 dX9_sits_15 rfl rfl fw_X9_157 rfl rfl ?_
  refine V_join (J := 30) (S := []) (v := .int (if ((σ.1 2259) = 0) then (σ.1 2258) else (-6 : Int32))) (fun hJ1 => ?_) ?_
  · refine V_if_eq (tgt := 26) K.1 dX9_sits_18 (by decide) (fun c18 => ?_) (fun c18 => ?_)
    · refine V_aload_n 0 K.1 dX9_sits_26 rfl rfl ?_
      refine V_get (v := .int (σ.1 2258)) K.1 dX9_sits_27 rfl rfl fw_X9_154 rfl rfl ?_
      exact V_top (if_pos c18) hJ1
    · refine V_bipush (v := -6) K.1 dX9_sits_21 (by decide) ?_
      refine V_goto (tgt := 30) K.1 dX9_sits_23 (by decide) ?_
      exact V_top (if_neg c18) hJ1
  exact V_iret K dX9_sits_30 k2
set_option maxRecDepth 20000 in
theorem C_X9_sits_11 {ω : WT} {κ : KT} {l : Launch} {d : Nat} {post : Option Value → St → Prop} {σ : St}  {post' : Option Value → St → Prop} (K : Cm ω κ l yX9_sits cX9_sits 1 d (some .int) post) (hdp : 1 ≤ d) (hM : Sp ω l yX9_goFirst cX9_goFirst 1 none (d - 1) [.ref (ω.2.2.1 35)] σ post')
    (kk : ∀ (v : Option Value) (σ' : St), post' v σ' → V ω κ 14 [(0, .ref (ω.2.2.1 35))] (v.toList ++ []) σ') : V ω κ 11 [(0, .ref (ω.2.2.1 35))] [.ref (ω.2.2.1 35)] σ := by
  exact V_callV (d' := d - 1) (As := []) (rest := []) K.1 dX9_sits_11 cw_X9_212 rfl rfl rfl (by omega) rfl (by simp [Value.category]) hM (fun v σ' h => kk v σ' h)
set_option maxRecDepth 20000 in
theorem R_X8_fits_0 {ω : WT} {κ : KT} {l : Launch} {d : Nat} {post : Option Value → St → Prop} {σ : St} {x1 x2 x3 : Int32}  (K : Cm ω κ l yX8_fits cX8_fits 8 d (some .int) post)
    (k1 : V ω κ 11 [(0, .ref (ω.2.2.1 0)), (1, .int x1), (3, .int x3)] [.int (σ.1 644), .int x3, .int x2, .int x1, .ref (ω.2.2.1 0)] σ) :
    V ω κ 0 [(0, .ref (ω.2.2.1 0)), (1, .int x1), (2, .int x2), (3, .int x3)] [] σ := by
  refine V_aload_n 0 K.1 dX8_fits_0 rfl rfl ?_
  refine V_iload_n 1 K.1 dX8_fits_1 rfl rfl ?_
  refine V_iload_n 2 K.1 dX8_fits_2 rfl rfl ?_
  refine V_iload_n 3 K.1 dX8_fits_3 rfl rfl ?_
  refine V_aload_n 0 K.1 dX8_fits_4 rfl rfl ?_
  refine V_get (v := .ref (ω.2.2.1 10)) K.1 dX8_fits_5 rfl rfl fw_X8_21 rfl rfl ?_
  refine V_get (v := .int (σ.1 644)) K.1 dX8_fits_8 rfl rfl fw_X8_120 rfl rfl ?_
  exact V_sub [0, 1, 3] rfl k1
set_option maxRecDepth 20000 in
theorem R_X8_fits_14 {ω : WT} {κ : KT} {l : Launch} {d : Nat} {post : Option Value → St → Prop} {σ : St} {x1 x3 s0 : Int32}  (K : Cm ω κ l yX8_fits cX8_fits 8 d (some .int) post) (hdp : 1 ≤ d)
    (k1 : (s0 = 0) → ¬ ((if ((σ.1 640) ≤ 0) then (0 : Int32) else (1 : Int32)) = 0) → V ω κ 43 [(0, .ref (ω.2.2.1 0)), (1, .int x1), (3, .int x3), (5, .int (0 : Int32)), (6, .int (0 : Int32))] [] σ)
    (k2 : (s0 = 0) → ((if ((σ.1 640) ≤ 0) then (0 : Int32) else (1 : Int32)) = 0) → post (some (.int (-3 : Int32))) σ)
    (k3 : ¬ (s0 = 0) → post (some (.int s0)) σ) :
    V ω κ 14 [(0, .ref (ω.2.2.1 0)), (1, .int x1), (3, .int x3)] [.int s0] σ := by
  refine V_istore (L' := [(0, .ref (ω.2.2.1 0)), (1, .int x1), (3, .int x3), (4, .int s0)]) K.1 dX8_fits_14 (by decide) rfl ?_
  refine V_iload 3 K.1 dX8_fits_16 rfl ?_
  refine V_if_eq (tgt := 24) K.1 dX8_fits_18 (by decide) (fun c18 => ?_) (fun c18 => ?_)
  · refine V_aload_n 0 K.1 dX8_fits_24 rfl rfl ?_
    refine V_get (v := .ref (ω.2.2.1 10)) K.1 dX8_fits_25 rfl rfl fw_X8_21 rfl rfl ?_
    refine V_callV (d' := d - 1) (As := []) K.1 dX8_fits_28 cw_X8_107 rfl rfl rfl (by omega) rfl (by simp [Value.category]) (m_X7_stands K.1.wf (by omega)) (go_I ?_)
    refine V_if_ne (tgt := 37) K.1 dX8_fits_31 (by decide) (fun c31 => ?_) (fun c31 => ?_)
    · refine V_iconst (v := 0) K.1 dX8_fits_37 (by decide) ?_
      refine V_istore (L' := [(0, .ref (ω.2.2.1 0)), (1, .int x1), (3, .int x3), (4, .int s0), (5, .int (0 : Int32))]) K.1 dX8_fits_38 (by decide) rfl ?_
      refine V_iconst (v := 0) K.1 dX8_fits_40 (by decide) ?_
      refine V_istore (L' := [(0, .ref (ω.2.2.1 0)), (1, .int x1), (3, .int x3), (4, .int s0), (5, .int (0 : Int32)), (6, .int (0 : Int32))]) K.1 dX8_fits_41 (by decide) rfl ?_
      exact V_sub [0, 1, 2, 4, 5] rfl (k1 c18 c31)
    · refine V_bipush (v := -3) K.1 dX8_fits_34 (by decide) ?_
      exact V_iret K dX8_fits_36 (k2 c18 c31)
  · refine V_iload 3 K.1 dX8_fits_21 rfl ?_
    exact V_iret K dX8_fits_23 (k3 c18)
set_option maxRecDepth 20000 in
theorem R_X8_fits_43 {ω : WT} {κ : KT} {l : Launch} {d : Nat} {post : Option Value → St → Prop} {σ : St} {x1 x3 x5 x6 : Int32}  (K : Cm ω κ l yX8_fits cX8_fits 8 d (some .int) post)
    (k1 : ((4 : Int32) ≤ x6) → post (some (.int x5)) σ)
    (k2 : ¬ ((4 : Int32) ≤ x6) → V ω κ 52 [(0, .ref (ω.2.2.1 0)), (1, .int x1), (3, .int x3), (5, .int x5), (6, .int x6), (7, .int (0 : Int32))] [] σ) :
    V ω κ 43 [(0, .ref (ω.2.2.1 0)), (1, .int x1), (3, .int x3), (5, .int x5), (6, .int x6)] [] σ := by
  refine V_iload 4 K.1 dX8_fits_43 rfl ?_
  refine V_iconst (v := 4) K.1 dX8_fits_45 (by decide) ?_
  refine V_icmp_ge (tgt := 126) K.1 dX8_fits_46 (by decide) (fun c46 => ?_) (fun c46 => ?_)
  · refine V_iload 3 K.1 dX8_fits_126 rfl ?_
    exact V_iret K dX8_fits_128 (k1 c46)
  · refine V_iconst (v := 0) K.1 dX8_fits_49 (by decide) ?_
    refine V_istore (L' := [(0, .ref (ω.2.2.1 0)), (1, .int x1), (3, .int x3), (5, .int x5), (6, .int x6), (7, .int (0 : Int32))]) K.1 dX8_fits_50 (by decide) rfl ?_
    exact (k2 c46)
set_option maxRecDepth 20000 in
theorem R_X8_fits_52 {ω : WT} {κ : KT} {l : Launch} {d : Nat} {post : Option Value → St → Prop} {σ : St} {x1 x3 x5 x6 x7 : Int32}  (K : Cm ω κ l yX8_fits cX8_fits 8 d (some .int) post) (hdp : 2 ≤ d)
    (k1 : ((3 : Int32) ≤ x7) → V ω κ 43 [(0, .ref (ω.2.2.1 0)), (1, .int x1), (3, .int x3), (5, .int x5), (6, .int (x6 + 1))] [] σ)
    (k2 : ¬ ((3 : Int32) ≤ x7) → V ω κ 81 [(0, .ref (ω.2.2.1 0)), (1, .int x1), (3, .int x3), (5, .int x5), (6, .int x6), (7, .int x7)] [.int (0 : Int32), .int (((if (((σ.1 640) - (1 : Int32)) < (0 : Int32)) then (0 : Int32) else ((σ.1 640) - (1 : Int32))) * (256 : Int32)) + (((1 : Int32) <<< ((σ.1 640) &&& 31)) - (1 : Int32))), .ref (ω.2.2.1 15)] (pS (pS σ 897 x6) 898 x7)) :
    V ω κ 52 [(0, .ref (ω.2.2.1 0)), (1, .int x1), (3, .int x3), (5, .int x5), (6, .int x6), (7, .int x7)] [] σ := by
  refine V_iload 5 K.1 dX8_fits_52 rfl ?_
  refine V_iconst (v := 3) K.1 dX8_fits_54 (by decide) ?_
  refine V_icmp_ge (tgt := 120) K.1 dX8_fits_55 (by decide) (fun c55 => ?_) (fun c55 => ?_)
  · refine V_iinc (v := (x6 + 1)) (L' := [(0, .ref (ω.2.2.1 0)), (1, .int x1), (3, .int x3), (5, .int x5), (6, .int (x6 + 1)), (7, .int x7)]) 4 K.1 dX8_fits_120 rfl rfl (by decide) rfl ?_
    refine V_goto (tgt := 43) K.1 dX8_fits_123 (by decide) ?_
    exact V_sub [0, 1, 2, 3, 4] rfl (k1 c55)
  · refine V_aload_n 0 K.1 dX8_fits_58 rfl rfl ?_
    refine V_get (v := .ref (ω.2.2.1 14)) K.1 dX8_fits_59 rfl rfl fw_X8_30 rfl rfl ?_
    refine V_iload 4 K.1 dX8_fits_62 rfl ?_
    refine V_iload 5 K.1 dX8_fits_64 rfl ?_
    refine V_callV (d' := d - 1) (As := [.int x6, .int x7]) K.1 dX8_fits_66 cw_X8_206 rfl rfl rfl (by omega) rfl (by simp [Value.category]) (m_X2_useRules K.1.wf (by omega)) (go_V ?_)
    refine V_aload_n 0 K.1 dX8_fits_69 rfl rfl ?_
    refine V_get (v := .ref (ω.2.2.1 15)) K.1 dX8_fits_70 rfl rfl fw_X8_39 rfl rfl ?_
    refine V_aload_n 0 K.1 dX8_fits_73 rfl rfl ?_
    refine V_get (v := .ref (ω.2.2.1 14)) K.1 dX8_fits_74 rfl rfl fw_X8_30 rfl rfl ?_
    refine V_callV (d' := d - 1) (As := []) K.1 dX8_fits_77 cw_X8_185 rfl rfl rfl (by omega) rfl (by simp [Value.category]) (m_X2_opening K.1.wf (by omega)) (go_I ?_)
    refine V_iconst (v := 0) K.1 dX8_fits_80 (by decide) ?_
    exact (k2 c55)
set_option maxRecDepth 20000 in
theorem R_X8_fits_84 {ω : WT} {κ : KT} {l : Launch} {d : Nat} {post : Option Value → St → Prop} {σ : St} {x1 x3 x5 x6 x7 s0 : Int32}  (K : Cm ω κ l yX8_fits cX8_fits 8 d (some .int) post)
    (k1 : V ω κ 94 [(0, .ref (ω.2.2.1 0)), (1, .int x1), (3, .int x3), (5, .int x5), (6, .int x6), (7, .int x7)] [.int x1, .ref (ω.2.2.1 1), .ref (ω.2.2.1 15)] σ) :
    V ω κ 84 [(0, .ref (ω.2.2.1 0)), (1, .int x1), (3, .int x3), (5, .int x5), (6, .int x6), (7, .int x7)] [.int s0] σ := by
  refine V_pop K.1 dX8_fits_84 rfl ?_
  refine V_aload_n 0 K.1 dX8_fits_85 rfl rfl ?_
  refine V_get (v := .ref (ω.2.2.1 15)) K.1 dX8_fits_86 rfl rfl fw_X8_39 rfl rfl ?_
  refine V_aload_n 0 K.1 dX8_fits_89 rfl rfl ?_
  refine V_get (v := .ref (ω.2.2.1 1)) K.1 dX8_fits_90 rfl rfl fw_X8_13 rfl rfl ?_
  refine V_iload_n 1 K.1 dX8_fits_93 rfl rfl ?_
  exact k1
set_option maxRecDepth 20000 in
theorem R_X8_fits_95 {ω : WT} {κ : KT} {l : Launch} {d : Nat} {post : Option Value → St → Prop} {σ : St} {x1 x3 x5 x6 x7 : Int32} {j : Nat} (hj : j < 4) (K : Cm ω κ l yX8_fits cX8_fits 8 d (some .int) post)
    (k1 : V ω κ 96 [(0, .ref (ω.2.2.1 0)), (1, .int x1), (3, .int x3), (5, .int x5), (6, .int x6), (7, .int x7)] [.int x3, .ref (ω.2.2.1 (2 + j)), .ref (ω.2.2.1 15)] σ) :
    V ω κ 95 [(0, .ref (ω.2.2.1 0)), (1, .int x1), (3, .int x3), (5, .int x5), (6, .int x6), (7, .int x7)] [.ref (ω.2.2.1 (2 + j)), .ref (ω.2.2.1 15)] σ := by
  refine V_iload_n 2 K.1 dX8_fits_95 rfl rfl ?_
  exact k1
set_option maxRecDepth 20000 in
theorem R_X8_fits_99 {ω : WT} {κ : KT} {l : Launch} {d : Nat} {post : Option Value → St → Prop} {σ : St} {x1 x3 x5 x6 x7 s0 : Int32}  (K : Cm ω κ l yX8_fits cX8_fits 8 d (some .int) post) (hdp : 1 ≤ d)
    (k1 : (s0 = 0) → V ω κ 52 [(0, .ref (ω.2.2.1 0)), (1, .int x1), (3, .int x3), (5, .int x5), (6, .int x6), (7, .int (x7 + 1))] [] σ)
    (k2 : ¬ (s0 = 0) → V ω κ 52 [(0, .ref (ω.2.2.1 0)), (1, .int x1), (3, .int x3), (5, .int (x5 ||| ((1 : Int32) <<< ((((3 : Int32) * x6) + x7) &&& 31)))), (6, .int x6), (7, .int (x7 + 1))] [] σ) :
    V ω κ 99 [(0, .ref (ω.2.2.1 0)), (1, .int x1), (3, .int x3), (5, .int x5), (6, .int x6), (7, .int x7)] [.int s0] σ := by
  refine V_if_eq (tgt := 114) K.1 dX8_fits_99 (by decide) (fun c99 => ?_) (fun c99 => ?_)
  · refine V_iinc (v := (x7 + 1)) (L' := [(0, .ref (ω.2.2.1 0)), (1, .int x1), (3, .int x3), (5, .int x5), (6, .int x6), (7, .int (x7 + 1))]) 5 K.1 dX8_fits_114 rfl rfl (by decide) rfl ?_
    refine V_goto (tgt := 52) K.1 dX8_fits_117 (by decide) ?_
    exact (k1 c99)
  · refine V_iload 3 K.1 dX8_fits_102 rfl ?_
    refine V_iload 4 K.1 dX8_fits_104 rfl ?_
    refine V_iload 5 K.1 dX8_fits_106 rfl ?_
    refine V_callS (d' := d - 1) (As := [.int x6, .int x7]) K.1 dX8_fits_108 cw_X8_214 rfl (by omega) rfl (by simp [Value.category]) (m_X8_ruleBit K.1.wf (by omega)) (go_I ?_)
    refine V_ior K.1 dX8_fits_111 ?_
    refine V_istore (L' := [(0, .ref (ω.2.2.1 0)), (1, .int x1), (3, .int x3), (5, .int (x5 ||| ((1 : Int32) <<< ((((3 : Int32) * x6) + x7) &&& 31)))), (6, .int x6), (7, .int x7)]) K.1 dX8_fits_112 (by decide) rfl ?_
    refine V_iinc (v := (x7 + 1)) (L' := [(0, .ref (ω.2.2.1 0)), (1, .int x1), (3, .int x3), (5, .int (x5 ||| ((1 : Int32) <<< ((((3 : Int32) * x6) + x7) &&& 31)))), (6, .int x6), (7, .int (x7 + 1))]) 5 K.1 dX8_fits_114 rfl rfl (by decide) rfl ?_
    refine V_goto (tgt := 52) K.1 dX8_fits_117 (by decide) ?_
    exact (k2 c99)
set_option maxRecDepth 20000 in
theorem C_X8_fits_11 {ω : WT} {κ : KT} {l : Launch} {d : Nat} {post : Option Value → St → Prop} {σ : St} {x1 x3 s1 s2 s3 s4 : Int32}  {post' : Option Value → St → Prop} (K : Cm ω κ l yX8_fits cX8_fits 8 d (some .int) post) (hdp : 1 ≤ d) (hM : Sp ω l yX8_whyNotTaken cX8_whyNotTaken 6 (some .int) (d - 1) [.ref (ω.2.2.1 0), .int s1, .int s2, .int s3, .int s4] σ post')
    (kk : ∀ (v : Option Value) (σ' : St), post' v σ' → V ω κ 14 [(0, .ref (ω.2.2.1 0)), (1, .int x1), (3, .int x3)] (v.toList ++ []) σ') : V ω κ 11 [(0, .ref (ω.2.2.1 0)), (1, .int x1), (3, .int x3)] [.int s4, .int s3, .int s2, .int s1, .ref (ω.2.2.1 0)] σ := by
  exact V_callV (d' := d - 1) (As := [.int s1, .int s2, .int s3, .int s4]) (rest := []) K.1 dX8_fits_11 cw_X8_73 rfl rfl rfl (by omega) rfl (by simp [Value.category]) hM (fun v σ' h => kk v σ' h)
set_option maxRecDepth 20000 in
theorem C_X8_fits_81 {ω : WT} {κ : KT} {l : Launch} {d : Nat} {post : Option Value → St → Prop} {σ : St} {x1 x3 x5 x6 x7 s1 s2 : Int32}  {post' : Option Value → St → Prop} (K : Cm ω κ l yX8_fits cX8_fits 8 d (some .int) post) (hdp : 1 ≤ d) (hM : Sp ω l yX0_go cX0_go 5 (some .int) (d - 1) [.ref (ω.2.2.1 15), .int s1, .int s2] σ post')
    (kk : ∀ (v : Option Value) (σ' : St), post' v σ' → V ω κ 84 [(0, .ref (ω.2.2.1 0)), (1, .int x1), (3, .int x3), (5, .int x5), (6, .int x6), (7, .int x7)] (v.toList ++ []) σ') : V ω κ 81 [(0, .ref (ω.2.2.1 0)), (1, .int x1), (3, .int x3), (5, .int x5), (6, .int x6), (7, .int x7)] [.int s2, .int s1, .ref (ω.2.2.1 15)] σ := by
  exact V_callV (d' := d - 1) (As := [.int s1, .int s2]) (rest := []) K.1 dX8_fits_81 cw_X8_188 rfl rfl rfl (by omega) rfl (by simp [Value.category]) hM (fun v σ' h => kk v σ' h)
set_option maxRecDepth 20000 in
theorem C_X8_fits_96 {ω : WT} {κ : KT} {l : Launch} {d : Nat} {post : Option Value → St → Prop} {σ : St} {x1 x3 x5 x6 x7 s2 : Int32} {j : Nat} (hj : j < 4) {post' : Option Value → St → Prop} (K : Cm ω κ l yX8_fits cX8_fits 8 d (some .int) post) (hdp : 1 ≤ d) (hM : Sp ω l yX0_hasSeatsAsIn cX0_hasSeatsAsIn 4 (some .boolean) (d - 1) [.ref (ω.2.2.1 15), .ref (ω.2.2.1 (2 + j)), .int s2] σ post')
    (kk : ∀ (v : Option Value) (σ' : St), post' v σ' → V ω κ 99 [(0, .ref (ω.2.2.1 0)), (1, .int x1), (3, .int x3), (5, .int x5), (6, .int x6), (7, .int x7)] (v.toList ++ []) σ') : V ω κ 96 [(0, .ref (ω.2.2.1 0)), (1, .int x1), (3, .int x3), (5, .int x5), (6, .int x6), (7, .int x7)] [.int s2, .ref (ω.2.2.1 (2 + j)), .ref (ω.2.2.1 15)] σ := by
  exact V_callV (d' := d - 1) (As := [.ref (ω.2.2.1 (2 + j)), .int s2]) (rest := []) K.1 dX8_fits_96 cw_X8_210 rfl rfl rfl (by omega) rfl (by simp [Value.category]) hM (fun v σ' h => kk v σ' h)
theorem A_X8_fits_94 {ω : WT} {κ : KT} {l : Launch} {d : Nat} {post : Option Value → St → Prop} {σ : St} {x1 x3 x5 x6 x7 : Int32}  {j : Nat} (hj : j < 4) (K : Cm ω κ l yX8_fits cX8_fits 8 d (some .int) post)
    (kk : V ω κ 95 [(0, .ref (ω.2.2.1 0)), (1, .int x1), (3, .int x3), (5, .int x5), (6, .int x6), (7, .int x7)] [.ref (ω.2.2.1 (2 + j)), .ref (ω.2.2.1 15)] σ) : V ω κ 94 [(0, .ref (ω.2.2.1 0)), (1, .int x1), (3, .int x3), (5, .int x5), (6, .int x6), (7, .int x7)] [.int (nI j), .ref (ω.2.2.1 1), .ref (ω.2.2.1 15)] σ := by
  refine V_aaload K.1 dX8_fits_94 rfl (vp_in_nI hj (by omega)) ?_
  rw [nI_clamp (by omega)]
  exact kk
set_option maxRecDepth 20000 in
theorem R_X9_fits_0 {ω : WT} {κ : KT} {l : Launch} {d : Nat} {post : Option Value → St → Prop} {σ : St} {x1 x2 x3 : Int32}  (K : Cm ω κ l yX9_fits cX9_fits 10 d (some .int) post) (hdp : 2 ≤ d)
    (p2 : ¬ ((if (x1 < (0 : Int32)) then (0 : Int32) else (if ((3 : Int32) < x1) then (0 : Int32) else (1 : Int32))) = 0) → ¬ ((if (x2 < (0 : Int32)) then (0 : Int32) else (if ((2 : Int32) < x2) then (0 : Int32) else (1 : Int32))) = 0) → vp_in x1 4)
    (p3 : ¬ ((if (x1 < (0 : Int32)) then (0 : Int32) else (if ((3 : Int32) < x1) then (0 : Int32) else (1 : Int32))) = 0) → ¬ ((if (x2 < (0 : Int32)) then (0 : Int32) else (if ((2 : Int32) < x2) then (0 : Int32) else (1 : Int32))) = 0) → ((σ.2.1 36 (x1).toNatClampNeg) = (-9 : Int32)) → vp_in x1 4)
    (p4 : ¬ ((if (x1 < (0 : Int32)) then (0 : Int32) else (if ((3 : Int32) < x1) then (0 : Int32) else (1 : Int32))) = 0) → ¬ ((if (x2 < (0 : Int32)) then (0 : Int32) else (if ((2 : Int32) < x2) then (0 : Int32) else (1 : Int32))) = 0) → ((σ.2.1 36 (x1).toNatClampNeg) = (-9 : Int32)) → ¬ ((σ.2.1 36 (x1).toNatClampNeg) = (-9 : Int32)) → (0 ≤ (if ((if (((pS σ 2240 (0 : Int32)).1 2245) ≤ 0) then (0 : Int32) else (1 : Int32)) = 0) then (0 : Int32) else ((pS σ 2240 (0 : Int32)).1 2251))) → ¬ (x3 < 0) → vp_in x1 4)
    (p5 : ¬ ((if (x1 < (0 : Int32)) then (0 : Int32) else (if ((3 : Int32) < x1) then (0 : Int32) else (1 : Int32))) = 0) → ¬ ((if (x2 < (0 : Int32)) then (0 : Int32) else (if ((2 : Int32) < x2) then (0 : Int32) else (1 : Int32))) = 0) → ((σ.2.1 36 (x1).toNatClampNeg) = (-9 : Int32)) → ¬ ((σ.2.1 36 (x1).toNatClampNeg) = (-9 : Int32)) → (0 ≤ (if ((if (((pS σ 2240 (0 : Int32)).1 2245) ≤ 0) then (0 : Int32) else (1 : Int32)) = 0) then (0 : Int32) else ((pS σ 2240 (0 : Int32)).1 2251))) → ¬ (x3 < 0) → ¬ ((σ.2.1 37 (x1).toNatClampNeg) < x3) → vp_in x1 4)
    (p6 : ¬ ((if (x1 < (0 : Int32)) then (0 : Int32) else (if ((3 : Int32) < x1) then (0 : Int32) else (1 : Int32))) = 0) → ¬ ((if (x2 < (0 : Int32)) then (0 : Int32) else (if ((2 : Int32) < x2) then (0 : Int32) else (1 : Int32))) = 0) → ¬ ((σ.2.1 36 (x1).toNatClampNeg) = (-9 : Int32)) → vp_in x1 4)
    (p7 : ¬ ((if (x1 < (0 : Int32)) then (0 : Int32) else (if ((3 : Int32) < x1) then (0 : Int32) else (1 : Int32))) = 0) → ¬ ((if (x2 < (0 : Int32)) then (0 : Int32) else (if ((2 : Int32) < x2) then (0 : Int32) else (1 : Int32))) = 0) → ¬ ((σ.2.1 36 (x1).toNatClampNeg) = (-9 : Int32)) → ((σ.2.1 36 (x1).toNatClampNeg) = x2) → vp_in x1 4)
    (p8 : ¬ ((if (x1 < (0 : Int32)) then (0 : Int32) else (if ((3 : Int32) < x1) then (0 : Int32) else (1 : Int32))) = 0) → ¬ ((if (x2 < (0 : Int32)) then (0 : Int32) else (if ((2 : Int32) < x2) then (0 : Int32) else (1 : Int32))) = 0) → ¬ ((σ.2.1 36 (x1).toNatClampNeg) = (-9 : Int32)) → ((σ.2.1 36 (x1).toNatClampNeg) = x2) → ¬ ((σ.2.1 36 (x1).toNatClampNeg) = (-9 : Int32)) → (0 ≤ (if ((if (((pS σ 2240 (0 : Int32)).1 2245) ≤ 0) then (0 : Int32) else (1 : Int32)) = 0) then (0 : Int32) else ((pS σ 2240 (0 : Int32)).1 2251))) → ¬ (x3 < 0) → vp_in x1 4)
    (p9 : ¬ ((if (x1 < (0 : Int32)) then (0 : Int32) else (if ((3 : Int32) < x1) then (0 : Int32) else (1 : Int32))) = 0) → ¬ ((if (x2 < (0 : Int32)) then (0 : Int32) else (if ((2 : Int32) < x2) then (0 : Int32) else (1 : Int32))) = 0) → ¬ ((σ.2.1 36 (x1).toNatClampNeg) = (-9 : Int32)) → ((σ.2.1 36 (x1).toNatClampNeg) = x2) → ¬ ((σ.2.1 36 (x1).toNatClampNeg) = (-9 : Int32)) → (0 ≤ (if ((if (((pS σ 2240 (0 : Int32)).1 2245) ≤ 0) then (0 : Int32) else (1 : Int32)) = 0) then (0 : Int32) else ((pS σ 2240 (0 : Int32)).1 2251))) → ¬ (x3 < 0) → ¬ ((σ.2.1 37 (x1).toNatClampNeg) < x3) → vp_in x1 4)
    (k10 : ¬ ((if (x1 < (0 : Int32)) then (0 : Int32) else (if ((3 : Int32) < x1) then (0 : Int32) else (1 : Int32))) = 0) → ¬ ((if (x2 < (0 : Int32)) then (0 : Int32) else (if ((2 : Int32) < x2) then (0 : Int32) else (1 : Int32))) = 0) → ((if ((σ.2.1 36 (x1).toNatClampNeg) = (-9 : Int32)) then (if ((σ.2.1 36 (x1).toNatClampNeg) = (-9 : Int32)) then (1 : Int32) else (if (0 ≤ (if ((if (((pS σ 2240 (0 : Int32)).1 2245) ≤ 0) then (0 : Int32) else (1 : Int32)) = 0) then (0 : Int32) else ((pS σ 2240 (0 : Int32)).1 2251))) then (if (x3 < 0) then (3 : Int32) else (if ((σ.2.1 37 (x1).toNatClampNeg) < x3) then (3 : Int32) else (if ((if ((if (((pS σ 2240 (0 : Int32)).1 2245) ≤ 0) then (0 : Int32) else (1 : Int32)) = 0) then (0 : Int32) else ((pS σ 2240 (0 : Int32)).1 2251)) ≤ ((σ.2.1 37 (x1).toNatClampNeg) - x3)) then (0 : Int32) else (3 : Int32)))) else (4 : Int32))) else (if ((σ.2.1 36 (x1).toNatClampNeg) = x2) then (if ((σ.2.1 36 (x1).toNatClampNeg) = (-9 : Int32)) then (1 : Int32) else (if (0 ≤ (if ((if (((pS σ 2240 (0 : Int32)).1 2245) ≤ 0) then (0 : Int32) else (1 : Int32)) = 0) then (0 : Int32) else ((pS σ 2240 (0 : Int32)).1 2251))) then (if (x3 < 0) then (3 : Int32) else (if ((σ.2.1 37 (x1).toNatClampNeg) < x3) then (3 : Int32) else (if ((if ((if (((pS σ 2240 (0 : Int32)).1 2245) ≤ 0) then (0 : Int32) else (1 : Int32)) = 0) then (0 : Int32) else ((pS σ 2240 (0 : Int32)).1 2251)) ≤ ((σ.2.1 37 (x1).toNatClampNeg) - x3)) then (0 : Int32) else (3 : Int32)))) else (4 : Int32))) else (2 : Int32))) = 0) → ¬ ((if ((σ.1 2245) ≤ 0) then (0 : Int32) else (1 : Int32)) = 0) → V ω κ 84 [(0, .ref (ω.2.2.1 35)), (5, .int (((80 : Int32) * x1) + x3)), (6, .int (0 : Int32)), (7, .int (0 : Int32))] [] (pS σ 2240 (0 : Int32)))
    (k11 : ¬ ((if (x1 < (0 : Int32)) then (0 : Int32) else (if ((3 : Int32) < x1) then (0 : Int32) else (1 : Int32))) = 0) → ¬ ((if (x2 < (0 : Int32)) then (0 : Int32) else (if ((2 : Int32) < x2) then (0 : Int32) else (1 : Int32))) = 0) → ((if ((σ.2.1 36 (x1).toNatClampNeg) = (-9 : Int32)) then (if ((σ.2.1 36 (x1).toNatClampNeg) = (-9 : Int32)) then (1 : Int32) else (if (0 ≤ (if ((if (((pS σ 2240 (0 : Int32)).1 2245) ≤ 0) then (0 : Int32) else (1 : Int32)) = 0) then (0 : Int32) else ((pS σ 2240 (0 : Int32)).1 2251))) then (if (x3 < 0) then (3 : Int32) else (if ((σ.2.1 37 (x1).toNatClampNeg) < x3) then (3 : Int32) else (if ((if ((if (((pS σ 2240 (0 : Int32)).1 2245) ≤ 0) then (0 : Int32) else (1 : Int32)) = 0) then (0 : Int32) else ((pS σ 2240 (0 : Int32)).1 2251)) ≤ ((σ.2.1 37 (x1).toNatClampNeg) - x3)) then (0 : Int32) else (3 : Int32)))) else (4 : Int32))) else (if ((σ.2.1 36 (x1).toNatClampNeg) = x2) then (if ((σ.2.1 36 (x1).toNatClampNeg) = (-9 : Int32)) then (1 : Int32) else (if (0 ≤ (if ((if (((pS σ 2240 (0 : Int32)).1 2245) ≤ 0) then (0 : Int32) else (1 : Int32)) = 0) then (0 : Int32) else ((pS σ 2240 (0 : Int32)).1 2251))) then (if (x3 < 0) then (3 : Int32) else (if ((σ.2.1 37 (x1).toNatClampNeg) < x3) then (3 : Int32) else (if ((if ((if (((pS σ 2240 (0 : Int32)).1 2245) ≤ 0) then (0 : Int32) else (1 : Int32)) = 0) then (0 : Int32) else ((pS σ 2240 (0 : Int32)).1 2251)) ≤ ((σ.2.1 37 (x1).toNatClampNeg) - x3)) then (0 : Int32) else (3 : Int32)))) else (4 : Int32))) else (2 : Int32))) = 0) → ((if ((σ.1 2245) ≤ 0) then (0 : Int32) else (1 : Int32)) = 0) → post (some (.int (-3 : Int32))) (pS σ 2240 (0 : Int32)))
    (k12 : ¬ ((if (x1 < (0 : Int32)) then (0 : Int32) else (if ((3 : Int32) < x1) then (0 : Int32) else (1 : Int32))) = 0) → ¬ ((if (x2 < (0 : Int32)) then (0 : Int32) else (if ((2 : Int32) < x2) then (0 : Int32) else (1 : Int32))) = 0) → ¬ ((if ((σ.2.1 36 (x1).toNatClampNeg) = (-9 : Int32)) then (if ((σ.2.1 36 (x1).toNatClampNeg) = (-9 : Int32)) then (1 : Int32) else (if (0 ≤ (if ((if (((pS σ 2240 (0 : Int32)).1 2245) ≤ 0) then (0 : Int32) else (1 : Int32)) = 0) then (0 : Int32) else ((pS σ 2240 (0 : Int32)).1 2251))) then (if (x3 < 0) then (3 : Int32) else (if ((σ.2.1 37 (x1).toNatClampNeg) < x3) then (3 : Int32) else (if ((if ((if (((pS σ 2240 (0 : Int32)).1 2245) ≤ 0) then (0 : Int32) else (1 : Int32)) = 0) then (0 : Int32) else ((pS σ 2240 (0 : Int32)).1 2251)) ≤ ((σ.2.1 37 (x1).toNatClampNeg) - x3)) then (0 : Int32) else (3 : Int32)))) else (4 : Int32))) else (if ((σ.2.1 36 (x1).toNatClampNeg) = x2) then (if ((σ.2.1 36 (x1).toNatClampNeg) = (-9 : Int32)) then (1 : Int32) else (if (0 ≤ (if ((if (((pS σ 2240 (0 : Int32)).1 2245) ≤ 0) then (0 : Int32) else (1 : Int32)) = 0) then (0 : Int32) else ((pS σ 2240 (0 : Int32)).1 2251))) then (if (x3 < 0) then (3 : Int32) else (if ((σ.2.1 37 (x1).toNatClampNeg) < x3) then (3 : Int32) else (if ((if ((if (((pS σ 2240 (0 : Int32)).1 2245) ≤ 0) then (0 : Int32) else (1 : Int32)) = 0) then (0 : Int32) else ((pS σ 2240 (0 : Int32)).1 2251)) ≤ ((σ.2.1 37 (x1).toNatClampNeg) - x3)) then (0 : Int32) else (3 : Int32)))) else (4 : Int32))) else (2 : Int32))) = 0) → post (some (.int ((-10 : Int32) - (if (((pS σ 2240 (0 : Int32)).2.1 36 (x1).toNatClampNeg) = (-9 : Int32)) then (if (((pS σ 2240 (0 : Int32)).2.1 36 (x1).toNatClampNeg) = (-9 : Int32)) then (1 : Int32) else (if (0 ≤ (if ((if (((pS (pS σ 2240 (0 : Int32)) 2240 (0 : Int32)).1 2245) ≤ 0) then (0 : Int32) else (1 : Int32)) = 0) then (0 : Int32) else ((pS (pS σ 2240 (0 : Int32)) 2240 (0 : Int32)).1 2251))) then (if (x3 < 0) then (3 : Int32) else (if (((pS σ 2240 (0 : Int32)).2.1 37 (x1).toNatClampNeg) < x3) then (3 : Int32) else (if ((if ((if (((pS (pS σ 2240 (0 : Int32)) 2240 (0 : Int32)).1 2245) ≤ 0) then (0 : Int32) else (1 : Int32)) = 0) then (0 : Int32) else ((pS (pS σ 2240 (0 : Int32)) 2240 (0 : Int32)).1 2251)) ≤ (((pS σ 2240 (0 : Int32)).2.1 37 (x1).toNatClampNeg) - x3)) then (0 : Int32) else (3 : Int32)))) else (4 : Int32))) else (if (((pS σ 2240 (0 : Int32)).2.1 36 (x1).toNatClampNeg) = x2) then (if (((pS σ 2240 (0 : Int32)).2.1 36 (x1).toNatClampNeg) = (-9 : Int32)) then (1 : Int32) else (if (0 ≤ (if ((if (((pS (pS σ 2240 (0 : Int32)) 2240 (0 : Int32)).1 2245) ≤ 0) then (0 : Int32) else (1 : Int32)) = 0) then (0 : Int32) else ((pS (pS σ 2240 (0 : Int32)) 2240 (0 : Int32)).1 2251))) then (if (x3 < 0) then (3 : Int32) else (if (((pS σ 2240 (0 : Int32)).2.1 37 (x1).toNatClampNeg) < x3) then (3 : Int32) else (if ((if ((if (((pS (pS σ 2240 (0 : Int32)) 2240 (0 : Int32)).1 2245) ≤ 0) then (0 : Int32) else (1 : Int32)) = 0) then (0 : Int32) else ((pS (pS σ 2240 (0 : Int32)) 2240 (0 : Int32)).1 2251)) ≤ (((pS σ 2240 (0 : Int32)).2.1 37 (x1).toNatClampNeg) - x3)) then (0 : Int32) else (3 : Int32)))) else (4 : Int32))) else (2 : Int32)))))) (pS (pS σ 2240 (0 : Int32)) 2240 (if (((pS σ 2240 (0 : Int32)).2.1 36 (x1).toNatClampNeg) = (-9 : Int32)) then (if (((pS σ 2240 (0 : Int32)).2.1 36 (x1).toNatClampNeg) = (-9 : Int32)) then (1 : Int32) else (if (0 ≤ (if ((if (((pS (pS σ 2240 (0 : Int32)) 2240 (0 : Int32)).1 2245) ≤ 0) then (0 : Int32) else (1 : Int32)) = 0) then (0 : Int32) else ((pS (pS σ 2240 (0 : Int32)) 2240 (0 : Int32)).1 2251))) then (if (x3 < 0) then (3 : Int32) else (if (((pS σ 2240 (0 : Int32)).2.1 37 (x1).toNatClampNeg) < x3) then (3 : Int32) else (if ((if ((if (((pS (pS σ 2240 (0 : Int32)) 2240 (0 : Int32)).1 2245) ≤ 0) then (0 : Int32) else (1 : Int32)) = 0) then (0 : Int32) else ((pS (pS σ 2240 (0 : Int32)) 2240 (0 : Int32)).1 2251)) ≤ (((pS σ 2240 (0 : Int32)).2.1 37 (x1).toNatClampNeg) - x3)) then (0 : Int32) else (3 : Int32)))) else (4 : Int32))) else (if (((pS σ 2240 (0 : Int32)).2.1 36 (x1).toNatClampNeg) = x2) then (if (((pS σ 2240 (0 : Int32)).2.1 36 (x1).toNatClampNeg) = (-9 : Int32)) then (1 : Int32) else (if (0 ≤ (if ((if (((pS (pS σ 2240 (0 : Int32)) 2240 (0 : Int32)).1 2245) ≤ 0) then (0 : Int32) else (1 : Int32)) = 0) then (0 : Int32) else ((pS (pS σ 2240 (0 : Int32)) 2240 (0 : Int32)).1 2251))) then (if (x3 < 0) then (3 : Int32) else (if (((pS σ 2240 (0 : Int32)).2.1 37 (x1).toNatClampNeg) < x3) then (3 : Int32) else (if ((if ((if (((pS (pS σ 2240 (0 : Int32)) 2240 (0 : Int32)).1 2245) ≤ 0) then (0 : Int32) else (1 : Int32)) = 0) then (0 : Int32) else ((pS (pS σ 2240 (0 : Int32)) 2240 (0 : Int32)).1 2251)) ≤ (((pS σ 2240 (0 : Int32)).2.1 37 (x1).toNatClampNeg) - x3)) then (0 : Int32) else (3 : Int32)))) else (4 : Int32))) else (2 : Int32)))))
    (k13 : ¬ ((if (x1 < (0 : Int32)) then (0 : Int32) else (if ((3 : Int32) < x1) then (0 : Int32) else (1 : Int32))) = 0) → ((if (x2 < (0 : Int32)) then (0 : Int32) else (if ((2 : Int32) < x2) then (0 : Int32) else (1 : Int32))) = 0) → post (some (.int (-2 : Int32))) (pS σ 2240 (0 : Int32)))
    (k14 : ((if (x1 < (0 : Int32)) then (0 : Int32) else (if ((3 : Int32) < x1) then (0 : Int32) else (1 : Int32))) = 0) → post (some (.int (-1 : Int32))) (pS σ 2240 (0 : Int32))) :
    V ω κ 0 [(0, .ref (ω.2.2.1 35)), (1, .int x1), (2, .int x2), (3, .int x3)] [] σ := by
  refine V_aload_n 0 K.1 dX9_fits_0 rfl rfl ?_
  refine V_iconst (v := 0) K.1 dX9_fits_1 (by decide) ?_
  refine V_putI (key := 2240) K.1 dX9_fits_2 rfl rfl fw_X9_81 pw_X9_0 rfl rfl rfl rfl ?_
  refine V_iload_n 1 K.1 dX9_fits_5 rfl rfl ?_
  refine V_callS (d' := d - 1) (As := [.int x1]) K.1 dX9_fits_6 cw_X9_100 rfl (by omega) rfl (by simp [Value.category]) (m_X9_isSheet K.1.wf (by omega)) (go_I ?_)
  refine V_if_ne (tgt := 14) K.1 dX9_fits_9 (by decide) (fun c9 => ?_) (fun c9 => ?_)
  · refine V_iload_n 2 K.1 dX9_fits_14 rfl rfl ?_
    refine V_callS (d' := d - 1) (As := [.int x2]) K.1 dX9_fits_15 cw_X9_104 rfl (by omega) rfl (by simp [Value.category]) (m_X9_isSort K.1.wf (by omega)) (go_I ?_)
    refine V_if_ne (tgt := 24) K.1 dX9_fits_18 (by decide) (fun c18 => ?_) (fun c18 => ?_)
    · refine V_aload_n 0 K.1 dX9_fits_24 rfl rfl ?_
      refine V_iload_n 1 K.1 dX9_fits_25 rfl rfl ?_
      refine V_iload_n 2 K.1 dX9_fits_26 rfl rfl ?_
      refine V_iload_n 3 K.1 dX9_fits_27 rfl rfl ?_
      refine V_aload_n 0 K.1 dX9_fits_28 rfl rfl ?_
      refine V_callV (d' := d - 1) (As := []) K.1 dX9_fits_29 cw_X9_146 rfl rfl rfl (by omega) rfl (by simp [Value.category]) (m_X9_isTown K.1.wf (by omega)) (go_I ?_)
      refine V_join (J := 43) (S := [.int x3, .int x2, .int x1, .ref (ω.2.2.1 35)]) (v := .int (if ((if ((σ.1 2245) ≤ 0) then (0 : Int32) else (1 : Int32)) = 0) then (0 : Int32) else (σ.1 2251))) (fun hJ1 => ?_) ?_
      · refine V_if_eq (tgt := 42) K.1 dX9_fits_32 (by decide) (fun c32 => ?_) (fun c32 => ?_)
        · refine V_iconst (v := 0) K.1 dX9_fits_42 (by decide) ?_
          exact V_top (if_pos c32) hJ1
        · refine V_aload_n 0 K.1 dX9_fits_35 rfl rfl ?_
          refine V_get (v := .int (σ.1 2251)) K.1 dX9_fits_36 rfl rfl fw_X9_130 rfl rfl ?_
          refine V_goto (tgt := 43) K.1 dX9_fits_39 (by decide) ?_
          exact V_top (if_neg c32) hJ1
      refine V_callV (d' := d - 1) (As := [.int x1, .int x2, .int x3, .int (if ((if ((σ.1 2245) ≤ 0) then (0 : Int32) else (1 : Int32)) = 0) then (0 : Int32) else (σ.1 2251))]) K.1 dX9_fits_43 cw_X9_107 rfl rfl rfl (by omega) rfl (by simp [Value.category]) (m_X9_against K.1.wf (by omega) (p2 c9 c18) (p3 c9 c18) (p4 c9 c18) (p5 c9 c18) (p6 c9 c18) (p7 c9 c18) (p8 c9 c18) (p9 c9 c18)) (go_I ?_)
      refine V_istore (L' := [(0, .ref (ω.2.2.1 35)), (1, .int x1), (2, .int x2), (3, .int x3), (4, .int (if ((σ.2.1 36 (x1).toNatClampNeg) = (-9 : Int32)) then (if ((σ.2.1 36 (x1).toNatClampNeg) = (-9 : Int32)) then (1 : Int32) else (if (0 ≤ (if ((if (((pS σ 2240 (0 : Int32)).1 2245) ≤ 0) then (0 : Int32) else (1 : Int32)) = 0) then (0 : Int32) else ((pS σ 2240 (0 : Int32)).1 2251))) then (if (x3 < 0) then (3 : Int32) else (if ((σ.2.1 37 (x1).toNatClampNeg) < x3) then (3 : Int32) else (if ((if ((if (((pS σ 2240 (0 : Int32)).1 2245) ≤ 0) then (0 : Int32) else (1 : Int32)) = 0) then (0 : Int32) else ((pS σ 2240 (0 : Int32)).1 2251)) ≤ ((σ.2.1 37 (x1).toNatClampNeg) - x3)) then (0 : Int32) else (3 : Int32)))) else (4 : Int32))) else (if ((σ.2.1 36 (x1).toNatClampNeg) = x2) then (if ((σ.2.1 36 (x1).toNatClampNeg) = (-9 : Int32)) then (1 : Int32) else (if (0 ≤ (if ((if (((pS σ 2240 (0 : Int32)).1 2245) ≤ 0) then (0 : Int32) else (1 : Int32)) = 0) then (0 : Int32) else ((pS σ 2240 (0 : Int32)).1 2251))) then (if (x3 < 0) then (3 : Int32) else (if ((σ.2.1 37 (x1).toNatClampNeg) < x3) then (3 : Int32) else (if ((if ((if (((pS σ 2240 (0 : Int32)).1 2245) ≤ 0) then (0 : Int32) else (1 : Int32)) = 0) then (0 : Int32) else ((pS σ 2240 (0 : Int32)).1 2251)) ≤ ((σ.2.1 37 (x1).toNatClampNeg) - x3)) then (0 : Int32) else (3 : Int32)))) else (4 : Int32))) else (2 : Int32))))]) K.1 dX9_fits_46 (by decide) rfl ?_
      refine V_iload 4 K.1 dX9_fits_48 rfl ?_
      refine V_if_eq (tgt := 60) K.1 dX9_fits_50 (by decide) (fun c50 => ?_) (fun c50 => ?_)
      · refine V_aload_n 0 K.1 dX9_fits_60 rfl rfl ?_
        refine V_callV (d' := d - 1) (As := []) K.1 dX9_fits_61 cw_X9_146 rfl rfl rfl (by omega) rfl (by simp [Value.category]) (m_X9_isTown K.1.wf (by omega)) (go_I ?_)
        refine V_if_ne (tgt := 70) K.1 dX9_fits_64 (by decide) (fun c64 => ?_) (fun c64 => ?_)
        · refine V_bipush (v := 80) K.1 dX9_fits_70 (by decide) ?_
          refine V_iload_n 1 K.1 dX9_fits_72 rfl rfl ?_
          refine V_imul K.1 dX9_fits_73 ?_
          refine V_iload_n 3 K.1 dX9_fits_74 rfl rfl ?_
          refine V_iadd K.1 dX9_fits_75 ?_
          refine V_istore (L' := [(0, .ref (ω.2.2.1 35)), (1, .int x1), (2, .int x2), (3, .int x3), (4, .int (if ((σ.2.1 36 (x1).toNatClampNeg) = (-9 : Int32)) then (if ((σ.2.1 36 (x1).toNatClampNeg) = (-9 : Int32)) then (1 : Int32) else (if (0 ≤ (if ((if (((pS σ 2240 (0 : Int32)).1 2245) ≤ 0) then (0 : Int32) else (1 : Int32)) = 0) then (0 : Int32) else ((pS σ 2240 (0 : Int32)).1 2251))) then (if (x3 < 0) then (3 : Int32) else (if ((σ.2.1 37 (x1).toNatClampNeg) < x3) then (3 : Int32) else (if ((if ((if (((pS σ 2240 (0 : Int32)).1 2245) ≤ 0) then (0 : Int32) else (1 : Int32)) = 0) then (0 : Int32) else ((pS σ 2240 (0 : Int32)).1 2251)) ≤ ((σ.2.1 37 (x1).toNatClampNeg) - x3)) then (0 : Int32) else (3 : Int32)))) else (4 : Int32))) else (if ((σ.2.1 36 (x1).toNatClampNeg) = x2) then (if ((σ.2.1 36 (x1).toNatClampNeg) = (-9 : Int32)) then (1 : Int32) else (if (0 ≤ (if ((if (((pS σ 2240 (0 : Int32)).1 2245) ≤ 0) then (0 : Int32) else (1 : Int32)) = 0) then (0 : Int32) else ((pS σ 2240 (0 : Int32)).1 2251))) then (if (x3 < 0) then (3 : Int32) else (if ((σ.2.1 37 (x1).toNatClampNeg) < x3) then (3 : Int32) else (if ((if ((if (((pS σ 2240 (0 : Int32)).1 2245) ≤ 0) then (0 : Int32) else (1 : Int32)) = 0) then (0 : Int32) else ((pS σ 2240 (0 : Int32)).1 2251)) ≤ ((σ.2.1 37 (x1).toNatClampNeg) - x3)) then (0 : Int32) else (3 : Int32)))) else (4 : Int32))) else (2 : Int32)))), (5, .int (((80 : Int32) * x1) + x3))]) K.1 dX9_fits_76 (by decide) rfl ?_
          refine V_iconst (v := 0) K.1 dX9_fits_78 (by decide) ?_
          refine V_istore (L' := [(0, .ref (ω.2.2.1 35)), (1, .int x1), (2, .int x2), (3, .int x3), (4, .int (if ((σ.2.1 36 (x1).toNatClampNeg) = (-9 : Int32)) then (if ((σ.2.1 36 (x1).toNatClampNeg) = (-9 : Int32)) then (1 : Int32) else (if (0 ≤ (if ((if (((pS σ 2240 (0 : Int32)).1 2245) ≤ 0) then (0 : Int32) else (1 : Int32)) = 0) then (0 : Int32) else ((pS σ 2240 (0 : Int32)).1 2251))) then (if (x3 < 0) then (3 : Int32) else (if ((σ.2.1 37 (x1).toNatClampNeg) < x3) then (3 : Int32) else (if ((if ((if (((pS σ 2240 (0 : Int32)).1 2245) ≤ 0) then (0 : Int32) else (1 : Int32)) = 0) then (0 : Int32) else ((pS σ 2240 (0 : Int32)).1 2251)) ≤ ((σ.2.1 37 (x1).toNatClampNeg) - x3)) then (0 : Int32) else (3 : Int32)))) else (4 : Int32))) else (if ((σ.2.1 36 (x1).toNatClampNeg) = x2) then (if ((σ.2.1 36 (x1).toNatClampNeg) = (-9 : Int32)) then (1 : Int32) else (if (0 ≤ (if ((if (((pS σ 2240 (0 : Int32)).1 2245) ≤ 0) then (0 : Int32) else (1 : Int32)) = 0) then (0 : Int32) else ((pS σ 2240 (0 : Int32)).1 2251))) then (if (x3 < 0) then (3 : Int32) else (if ((σ.2.1 37 (x1).toNatClampNeg) < x3) then (3 : Int32) else (if ((if ((if (((pS σ 2240 (0 : Int32)).1 2245) ≤ 0) then (0 : Int32) else (1 : Int32)) = 0) then (0 : Int32) else ((pS σ 2240 (0 : Int32)).1 2251)) ≤ ((σ.2.1 37 (x1).toNatClampNeg) - x3)) then (0 : Int32) else (3 : Int32)))) else (4 : Int32))) else (2 : Int32)))), (5, .int (((80 : Int32) * x1) + x3)), (6, .int (0 : Int32))]) K.1 dX9_fits_79 (by decide) rfl ?_
          refine V_iconst (v := 0) K.1 dX9_fits_81 (by decide) ?_
          refine V_istore (L' := [(0, .ref (ω.2.2.1 35)), (1, .int x1), (2, .int x2), (3, .int x3), (4, .int (if ((σ.2.1 36 (x1).toNatClampNeg) = (-9 : Int32)) then (if ((σ.2.1 36 (x1).toNatClampNeg) = (-9 : Int32)) then (1 : Int32) else (if (0 ≤ (if ((if (((pS σ 2240 (0 : Int32)).1 2245) ≤ 0) then (0 : Int32) else (1 : Int32)) = 0) then (0 : Int32) else ((pS σ 2240 (0 : Int32)).1 2251))) then (if (x3 < 0) then (3 : Int32) else (if ((σ.2.1 37 (x1).toNatClampNeg) < x3) then (3 : Int32) else (if ((if ((if (((pS σ 2240 (0 : Int32)).1 2245) ≤ 0) then (0 : Int32) else (1 : Int32)) = 0) then (0 : Int32) else ((pS σ 2240 (0 : Int32)).1 2251)) ≤ ((σ.2.1 37 (x1).toNatClampNeg) - x3)) then (0 : Int32) else (3 : Int32)))) else (4 : Int32))) else (if ((σ.2.1 36 (x1).toNatClampNeg) = x2) then (if ((σ.2.1 36 (x1).toNatClampNeg) = (-9 : Int32)) then (1 : Int32) else (if (0 ≤ (if ((if (((pS σ 2240 (0 : Int32)).1 2245) ≤ 0) then (0 : Int32) else (1 : Int32)) = 0) then (0 : Int32) else ((pS σ 2240 (0 : Int32)).1 2251))) then (if (x3 < 0) then (3 : Int32) else (if ((σ.2.1 37 (x1).toNatClampNeg) < x3) then (3 : Int32) else (if ((if ((if (((pS σ 2240 (0 : Int32)).1 2245) ≤ 0) then (0 : Int32) else (1 : Int32)) = 0) then (0 : Int32) else ((pS σ 2240 (0 : Int32)).1 2251)) ≤ ((σ.2.1 37 (x1).toNatClampNeg) - x3)) then (0 : Int32) else (3 : Int32)))) else (4 : Int32))) else (2 : Int32)))), (5, .int (((80 : Int32) * x1) + x3)), (6, .int (0 : Int32)), (7, .int (0 : Int32))]) K.1 dX9_fits_82 (by decide) rfl ?_
          exact V_sub [0, 5, 6, 7] rfl (k10 c9 c18 c50 c64)
        · refine V_bipush (v := -3) K.1 dX9_fits_67 (by decide) ?_
          exact V_iret K dX9_fits_69 (k11 c9 c18 c50 c64)
      · refine V_aload_n 0 K.1 dX9_fits_53 rfl rfl ?_
        refine V_iload 4 K.1 dX9_fits_54 rfl ?_
        refine V_callV (d' := d - 1) (As := [.int (if ((σ.2.1 36 (x1).toNatClampNeg) = (-9 : Int32)) then (if ((σ.2.1 36 (x1).toNatClampNeg) = (-9 : Int32)) then (1 : Int32) else (if (0 ≤ (if ((if (((pS σ 2240 (0 : Int32)).1 2245) ≤ 0) then (0 : Int32) else (1 : Int32)) = 0) then (0 : Int32) else ((pS σ 2240 (0 : Int32)).1 2251))) then (if (x3 < 0) then (3 : Int32) else (if ((σ.2.1 37 (x1).toNatClampNeg) < x3) then (3 : Int32) else (if ((if ((if (((pS σ 2240 (0 : Int32)).1 2245) ≤ 0) then (0 : Int32) else (1 : Int32)) = 0) then (0 : Int32) else ((pS σ 2240 (0 : Int32)).1 2251)) ≤ ((σ.2.1 37 (x1).toNatClampNeg) - x3)) then (0 : Int32) else (3 : Int32)))) else (4 : Int32))) else (if ((σ.2.1 36 (x1).toNatClampNeg) = x2) then (if ((σ.2.1 36 (x1).toNatClampNeg) = (-9 : Int32)) then (1 : Int32) else (if (0 ≤ (if ((if (((pS σ 2240 (0 : Int32)).1 2245) ≤ 0) then (0 : Int32) else (1 : Int32)) = 0) then (0 : Int32) else ((pS σ 2240 (0 : Int32)).1 2251))) then (if (x3 < 0) then (3 : Int32) else (if ((σ.2.1 37 (x1).toNatClampNeg) < x3) then (3 : Int32) else (if ((if ((if (((pS σ 2240 (0 : Int32)).1 2245) ≤ 0) then (0 : Int32) else (1 : Int32)) = 0) then (0 : Int32) else ((pS σ 2240 (0 : Int32)).1 2251)) ≤ ((σ.2.1 37 (x1).toNatClampNeg) - x3)) then (0 : Int32) else (3 : Int32)))) else (4 : Int32))) else (2 : Int32)))]) K.1 dX9_fits_56 cw_X9_111 rfl rfl rfl (by omega) rfl (by simp [Value.category]) (m_X9_fails K.1.wf (by omega)) (go_I ?_)
        exact V_iret K dX9_fits_59 (k12 c9 c18 c50)
    · refine V_bipush (v := -2) K.1 dX9_fits_21 (by decide) ?_
      exact V_iret K dX9_fits_23 (k13 c9 c18)
  · refine V_iconst (v := -1) K.1 dX9_fits_12 (by decide) ?_
    exact V_iret K dX9_fits_13 (k14 c9)
set_option maxRecDepth 20000 in
theorem R_X9_fits_84 {ω : WT} {κ : KT} {l : Launch} {d : Nat} {post : Option Value → St → Prop} {σ : St} {x5 x6 x7 : Int32}  (K : Cm ω κ l yX9_fits cX9_fits 10 d (some .int) post) (hdp : 2 ≤ d)
    (k1 : ((12 : Int32) ≤ x7) → post (some (.int x6)) σ)
    (k2 : ¬ ((12 : Int32) ≤ x7) → V ω κ 120 [(0, .ref (ω.2.2.1 35)), (5, .int x5), (6, .int x6), (7, .int x7)] [.int (σ.1 2251), .ref (ω.2.2.1 41), .ref (ω.2.2.1 35)] (pS (pS (pS (pS (pS (pS (pS σ 2258 (((1 : Int32) <<< ((σ.1 2245) &&& 31)) - (1 : Int32))) 2259 (0 : Int32)) 2260 ((σ.1 2245) - (1 : Int32))) 2261 (σ.1 2249)) 2262 (σ.1 2250)) 2261 (x7 / (3 : Int32))) 2262 (x7 - x7 / (3 : Int32) * (3 : Int32)))) :
    V ω κ 84 [(0, .ref (ω.2.2.1 35)), (5, .int x5), (6, .int x6), (7, .int x7)] [] σ := by
  refine V_iload 3 K.1 dX9_fits_84 rfl ?_
  refine V_bipush (v := 12) K.1 dX9_fits_86 (by decide) ?_
  refine V_icmp_ge (tgt := 200) K.1 dX9_fits_88 (by decide) (fun c88 => ?_) (fun c88 => ?_)
  · refine V_iload 2 K.1 dX9_fits_200 rfl ?_
    exact V_iret K dX9_fits_202 (k1 c88)
  · refine V_aload_n 0 K.1 dX9_fits_91 rfl rfl ?_
    refine V_callV (d' := d - 1) (As := []) K.1 dX9_fits_92 cw_X9_205 rfl rfl rfl (by omega) rfl (by simp [Value.category]) (m_X9_layHall K.1.wf (by omega)) (go_V ?_)
    refine V_aload_n 0 K.1 dX9_fits_95 rfl rfl ?_
    refine V_iload 3 K.1 dX9_fits_96 rfl ?_
    refine V_iconst (v := 3) K.1 dX9_fits_98 (by decide) ?_
    refine V_idiv K.1 dX9_fits_99 (by decide) ?_
    refine V_putI (key := 2261) K.1 dX9_fits_100 rfl rfl fw_X9_164 pw_X9_21 rfl rfl rfl rfl ?_
    refine V_aload_n 0 K.1 dX9_fits_103 rfl rfl ?_
    refine V_iload 3 K.1 dX9_fits_104 rfl ?_
    refine V_iconst (v := 3) K.1 dX9_fits_106 (by decide) ?_
    refine V_irem K.1 dX9_fits_107 (by decide) ?_
    refine V_putI (key := 2262) K.1 dX9_fits_108 rfl rfl fw_X9_167 pw_X9_22 rfl rfl rfl rfl ?_
    refine V_aload_n 0 K.1 dX9_fits_111 rfl rfl ?_
    refine V_aload_n 0 K.1 dX9_fits_112 rfl rfl ?_
    refine V_get (v := .ref (ω.2.2.1 41)) K.1 dX9_fits_113 rfl rfl fw_X9_25 rfl rfl ?_
    refine V_aload_n 0 K.1 dX9_fits_116 rfl rfl ?_
    refine V_get (v := .int (σ.1 2251)) K.1 dX9_fits_117 rfl rfl fw_X9_130 rfl rfl ?_
    exact (k2 c88)
set_option maxRecDepth 20000 in
theorem R_X9_fits_123 {ω : WT} {κ : KT} {l : Launch} {d : Nat} {post : Option Value → St → Prop} {σ : St} {x5 x6 x7 : Int32}  (K : Cm ω κ l yX9_fits cX9_fits 10 d (some .int) post)
    (k1 : V ω κ 129 [(0, .ref (ω.2.2.1 35)), (5, .int x5), (6, .int x6), (7, .int x7), (8, .int (1 : Int32)), (9, .int (0 : Int32))] [] σ) :
    V ω κ 123 [(0, .ref (ω.2.2.1 35)), (5, .int x5), (6, .int x6), (7, .int x7)] [] σ := by
  refine V_iconst (v := 1) K.1 dX9_fits_123 (by decide) ?_
  refine V_istore (L' := [(0, .ref (ω.2.2.1 35)), (5, .int x5), (6, .int x6), (7, .int x7), (8, .int (1 : Int32))]) K.1 dX9_fits_124 (by decide) rfl ?_
  refine V_iconst (v := 0) K.1 dX9_fits_126 (by decide) ?_
  refine V_istore (L' := [(0, .ref (ω.2.2.1 35)), (5, .int x5), (6, .int x6), (7, .int x7), (8, .int (1 : Int32)), (9, .int (0 : Int32))]) K.1 dX9_fits_127 (by decide) rfl ?_
  exact k1
set_option maxRecDepth 20000 in
theorem R_X9_fits_129 {ω : WT} {κ : KT} {l : Launch} {d : Nat} {post : Option Value → St → Prop} {σ : St} {x5 x6 x7 x8 x9 : Int32}  (K : Cm ω κ l yX9_fits cX9_fits 10 d (some .int) post)
    (k2 : ((σ.1 2251) ≤ x9) → V ω κ 84 [(0, .ref (ω.2.2.1 35)), (5, .int x5), (6, .int (x6 ||| (if (x8 = 0) then (0 : Int32) else ((1 : Int32) <<< (x7 &&& 31))))), (7, .int (x7 + 1))] [] σ)
    (b4 : ¬ ((σ.1 2251) ≤ x9) → ¬ (x8 = 0) → vp_in x9 6)
    (b5 : ¬ ((σ.1 2251) ≤ x9) → ¬ (x8 = 0) → vp_in (x5 + x9) 320)
    (k6 : ¬ ((σ.1 2251) ≤ x9) → V ω κ 129 [(0, .ref (ω.2.2.1 35)), (5, .int x5), (6, .int x6), (7, .int x7), (8, .int (if (x8 = 0) then (0 : Int32) else (if ((σ.2.1 47 (x9).toNatClampNeg) = (σ.2.1 38 ((x5 + x9)).toNatClampNeg)) then (1 : Int32) else (0 : Int32)))), (9, .int (x9 + 1))] [] σ) :
    V ω κ 129 [(0, .ref (ω.2.2.1 35)), (5, .int x5), (6, .int x6), (7, .int x7), (8, .int x8), (9, .int x9)] [] σ := by
  refine V_iload 5 K.1 dX9_fits_129 rfl ?_
  refine V_aload_n 0 K.1 dX9_fits_131 rfl rfl ?_
  refine V_get (v := .int (σ.1 2251)) K.1 dX9_fits_132 rfl rfl fw_X9_130 rfl rfl ?_
  refine V_icmp_ge (tgt := 176) K.1 dX9_fits_135 (by decide) (fun c135 => ?_) (fun c135 => ?_)
  · refine V_iload 2 K.1 dX9_fits_176 rfl ?_
    refine V_iload 4 K.1 dX9_fits_178 rfl ?_
    refine V_join (J := 191) (S := [.int x6]) (v := .int (if (x8 = 0) then (0 : Int32) else ((1 : Int32) <<< (x7 &&& 31)))) (fun hJ1 => ?_) ?_
    · refine V_if_eq (tgt := 190) K.1 dX9_fits_180 (by decide) (fun c180 => ?_) (fun c180 => ?_)
      · refine V_iconst (v := 0) K.1 dX9_fits_190 (by decide) ?_
        exact V_top (if_pos c180) hJ1
      · refine V_iconst (v := 1) K.1 dX9_fits_183 (by decide) ?_
        refine V_iload 3 K.1 dX9_fits_184 rfl ?_
        refine V_ishl K.1 dX9_fits_186 ?_
        refine V_goto (tgt := 191) K.1 dX9_fits_187 (by decide) ?_
        exact V_top (if_neg c180) hJ1
    refine V_ior K.1 dX9_fits_191 ?_
    refine V_istore (L' := [(0, .ref (ω.2.2.1 35)), (5, .int x5), (6, .int (x6 ||| (if (x8 = 0) then (0 : Int32) else ((1 : Int32) <<< (x7 &&& 31))))), (7, .int x7), (8, .int x8), (9, .int x9)]) K.1 dX9_fits_192 (by decide) rfl ?_
    refine V_iinc (v := (x7 + 1)) (L' := [(0, .ref (ω.2.2.1 35)), (5, .int x5), (6, .int (x6 ||| (if (x8 = 0) then (0 : Int32) else ((1 : Int32) <<< (x7 &&& 31))))), (7, .int (x7 + 1)), (8, .int x8), (9, .int x9)]) 3 K.1 dX9_fits_194 rfl rfl (by decide) rfl ?_
    refine V_goto (tgt := 84) K.1 dX9_fits_197 (by decide) ?_
    exact V_sub [0, 1, 2, 3] rfl (k2 c135)
  · refine V_iload 4 K.1 dX9_fits_138 rfl ?_
    refine V_join (J := 168) (S := []) (v := .int (if (x8 = 0) then (0 : Int32) else (if ((σ.2.1 47 (x9).toNatClampNeg) = (σ.2.1 38 ((x5 + x9)).toNatClampNeg)) then (1 : Int32) else (0 : Int32)))) (fun hJ3 => ?_) ?_
    · refine V_if_eq (tgt := 167) K.1 dX9_fits_140 (by decide) (fun c140 => ?_) (fun c140 => ?_)
      · refine V_iconst (v := 0) K.1 dX9_fits_167 (by decide) ?_
        exact V_top (if_pos c140) hJ3
      · refine V_aload_n 0 K.1 dX9_fits_143 rfl rfl ?_
        refine V_get (v := .ref (ω.2.2.1 47)) K.1 dX9_fits_144 rfl rfl fw_X9_43 rfl rfl ?_
        refine V_iload 5 K.1 dX9_fits_147 rfl ?_
        refine V_iaload (v := (σ.2.1 47 (x9).toNatClampNeg)) K.1 dX9_fits_149 rfl (b4 c135 c140) rfl ?_
        refine V_aload_n 0 K.1 dX9_fits_150 rfl rfl ?_
        refine V_get (v := .ref (ω.2.2.1 38)) K.1 dX9_fits_151 rfl rfl fw_X9_16 rfl rfl ?_
        refine V_iload 1 K.1 dX9_fits_154 rfl ?_
        refine V_iload 5 K.1 dX9_fits_156 rfl ?_
        refine V_iadd K.1 dX9_fits_158 ?_
        refine V_iaload (v := (σ.2.1 38 ((x5 + x9)).toNatClampNeg)) K.1 dX9_fits_159 rfl (b5 c135 c140) rfl ?_
        refine V_icmp_ne (tgt := 167) K.1 dX9_fits_160 (by decide) (fun c160 => ?_) (fun c160 => ?_)
        · refine V_iconst (v := 0) K.1 dX9_fits_167 (by decide) ?_
          exact V_top ((if_neg c140).trans (if_neg c160)) hJ3
        · refine V_iconst (v := 1) K.1 dX9_fits_163 (by decide) ?_
          refine V_goto (tgt := 168) K.1 dX9_fits_164 (by decide) ?_
          exact V_top ((if_neg c140).trans (if_pos c160)) hJ3
    refine V_istore (L' := [(0, .ref (ω.2.2.1 35)), (5, .int x5), (6, .int x6), (7, .int x7), (8, .int (if (x8 = 0) then (0 : Int32) else (if ((σ.2.1 47 (x9).toNatClampNeg) = (σ.2.1 38 ((x5 + x9)).toNatClampNeg)) then (1 : Int32) else (0 : Int32)))), (9, .int x9)]) K.1 dX9_fits_168 (by decide) rfl ?_
    refine V_iinc (v := (x9 + 1)) (L' := [(0, .ref (ω.2.2.1 35)), (5, .int x5), (6, .int x6), (7, .int x7), (8, .int (if (x8 = 0) then (0 : Int32) else (if ((σ.2.1 47 (x9).toNatClampNeg) = (σ.2.1 38 ((x5 + x9)).toNatClampNeg)) then (1 : Int32) else (0 : Int32)))), (9, .int (x9 + 1))]) 5 K.1 dX9_fits_170 rfl rfl (by decide) rfl ?_
    refine V_goto (tgt := 129) K.1 dX9_fits_173 (by decide) ?_
    exact (k6 c135)
set_option maxRecDepth 20000 in
theorem C_X9_fits_120 {ω : WT} {κ : KT} {l : Launch} {d : Nat} {post : Option Value → St → Prop} {σ : St} {x5 x6 x7 s2 : Int32}  {post' : Option Value → St → Prop} (K : Cm ω κ l yX9_fits cX9_fits 10 d (some .int) post) (hdp : 1 ≤ d) (hM : Sp ω l yX9_goRun cX9_goRun 4 none (d - 1) [.ref (ω.2.2.1 35), .ref (ω.2.2.1 41), .int s2] σ post')
    (kk : ∀ (v : Option Value) (σ' : St), post' v σ' → V ω κ 123 [(0, .ref (ω.2.2.1 35)), (5, .int x5), (6, .int x6), (7, .int x7)] (v.toList ++ []) σ') : V ω κ 120 [(0, .ref (ω.2.2.1 35)), (5, .int x5), (6, .int x6), (7, .int x7)] [.int s2, .ref (ω.2.2.1 41), .ref (ω.2.2.1 35)] σ := by
  exact V_callV (d' := d - 1) (As := [.ref (ω.2.2.1 41), .int s2]) (rest := []) K.1 dX9_fits_120 cw_X9_208 rfl rfl rfl (by omega) rfl (by simp [Value.category]) hM (fun v σ' h => kk v σ' h)
set_option maxRecDepth 20000 in
theorem R_X8_key_0 {ω : WT} {κ : KT} {l : Launch} {d : Nat} {post : Option Value → St → Prop} {σ : St} {x1 : Int32}  (K : Cm ω κ l yX8_key cX8_key 6 d (some .int) post) (hdp : 1 ≤ d)
    (k1 : (x1 < 0) → post (some (.int (-2 : Int32))) σ)
    (k2 : ¬ (x1 < 0) → (x1 ≤ (1 : Int32)) → ¬ ((if ((σ.1 640) ≤ 0) then (0 : Int32) else (1 : Int32)) = 0) → V ω κ 26 [(0, .ref (ω.2.2.1 0)), (1, .int x1)] [.ref (ω.2.2.1 0)] σ)
    (k3 : ¬ (x1 < 0) → (x1 ≤ (1 : Int32)) → ((if ((σ.1 640) ≤ 0) then (0 : Int32) else (1 : Int32)) = 0) → post (some (.int (-3 : Int32))) σ)
    (k4 : ¬ (x1 < 0) → ¬ (x1 ≤ (1 : Int32)) → post (some (.int (-2 : Int32))) σ) :
    V ω κ 0 [(0, .ref (ω.2.2.1 0)), (1, .int x1)] [] σ := by
  refine V_iload_n 1 K.1 dX8_key_0 rfl rfl ?_
  refine V_if_lt (tgt := 9) K.1 dX8_key_1 (by decide) (fun c1 => ?_) (fun c1 => ?_)
  · refine V_bipush (v := -2) K.1 dX8_key_9 (by decide) ?_
    exact V_iret K dX8_key_11 (k1 c1)
  · refine V_iload_n 1 K.1 dX8_key_4 rfl rfl ?_
    refine V_iconst (v := 1) K.1 dX8_key_5 (by decide) ?_
    refine V_icmp_le (tgt := 12) K.1 dX8_key_6 (by decide) (fun c6 => ?_) (fun c6 => ?_)
    · refine V_aload_n 0 K.1 dX8_key_12 rfl rfl ?_
      refine V_get (v := .ref (ω.2.2.1 10)) K.1 dX8_key_13 rfl rfl fw_X8_21 rfl rfl ?_
      refine V_callV (d' := d - 1) (As := []) K.1 dX8_key_16 cw_X8_107 rfl rfl rfl (by omega) rfl (by simp [Value.category]) (m_X7_stands K.1.wf (by omega)) (go_I ?_)
      refine V_if_ne (tgt := 25) K.1 dX8_key_19 (by decide) (fun c19 => ?_) (fun c19 => ?_)
      · refine V_aload_n 0 K.1 dX8_key_25 rfl rfl ?_
        exact (k2 c1 c6 c19)
      · refine V_bipush (v := -3) K.1 dX8_key_22 (by decide) ?_
        exact V_iret K dX8_key_24 (k3 c1 c6 c19)
    · refine V_bipush (v := -2) K.1 dX8_key_9 (by decide) ?_
      exact V_iret K dX8_key_11 (k4 c1 c6)
set_option maxRecDepth 20000 in
theorem R_X8_key_29 {ω : WT} {κ : KT} {l : Launch} {d : Nat} {post : Option Value → St → Prop} {σ : St} {x1 s0 : Int32}  (K : Cm ω κ l yX8_key cX8_key 6 d (some .int) post) (hdp : 3 ≤ d)
    (p1 : ¬ (0 : Int32) < 0)
    (p2 : ¬ (0 : Int32) < 0)
    (p3 : ¬ (6 : Int32) < 0)
    (p4 : ((0 : Int32)).toNatClampNeg + ((6 : Int32)).toNatClampNeg ≤ 6)
    (p5 : ((0 : Int32)).toNatClampNeg + ((6 : Int32)).toNatClampNeg ≤ 6)
    (k6 : V ω κ 44 [(0, .ref (ω.2.2.1 0)), (1, .int x1), (2, .int (0 : Int32)), (3, .int (0 : Int32)), (4, .int (0 : Int32))] [] (pF σ 20 (va_cpy (σ.2.1 18) (σ.2.1 20) ((0 : Int32)).toNatClampNeg ((0 : Int32)).toNatClampNeg ((6 : Int32)).toNatClampNeg))) :
    V ω κ 29 [(0, .ref (ω.2.2.1 0)), (1, .int x1)] [.int s0] σ := by
  refine V_pop K.1 dX8_key_29 rfl ?_
  refine V_aload_n 0 K.1 dX8_key_30 rfl rfl ?_
  refine V_get (v := .ref (ω.2.2.1 15)) K.1 dX8_key_31 rfl rfl fw_X8_39 rfl rfl ?_
  refine V_callV (d' := d - 1) (As := []) K.1 dX8_key_34 cw_X8_182 rfl rfl rfl (by omega) rfl (by simp [Value.category]) (m_X0_keepOutcome K.1.wf (by omega) p1 p2 p3 p4 p5) (go_V ?_)
  refine V_iconst (v := 0) K.1 dX8_key_37 (by decide) ?_
  refine V_istore_n (L' := [(0, .ref (ω.2.2.1 0)), (1, .int x1), (2, .int (0 : Int32))]) K.1 dX8_key_38 rfl (by decide) rfl ?_
  refine V_iconst (v := 0) K.1 dX8_key_39 (by decide) ?_
  refine V_istore_n (L' := [(0, .ref (ω.2.2.1 0)), (1, .int x1), (2, .int (0 : Int32)), (3, .int (0 : Int32))]) K.1 dX8_key_40 rfl (by decide) rfl ?_
  refine V_iconst (v := 0) K.1 dX8_key_41 (by decide) ?_
  refine V_istore (L' := [(0, .ref (ω.2.2.1 0)), (1, .int x1), (2, .int (0 : Int32)), (3, .int (0 : Int32)), (4, .int (0 : Int32))]) K.1 dX8_key_42 (by decide) rfl ?_
  exact k6
set_option maxRecDepth 20000 in
theorem R_X8_key_44 {ω : WT} {κ : KT} {l : Launch} {d : Nat} {post : Option Value → St → Prop} {σ : St} {x1 x2 x3 x4 : Int32}  (K : Cm ω κ l yX8_key cX8_key 6 d (some .int) post) (hdp : 2 ≤ d)
    (k2 : ((σ.1 640) ≤ x4) → post (some (.int (if (x1 = 0) then x2 else x3))) σ)
    (k3 : ¬ ((σ.1 640) ≤ x4) → V ω κ 71 [(0, .ref (ω.2.2.1 0)), (1, .int x1), (2, .int x2), (3, .int x3), (4, .int x4)] [.int ((1 : Int32) <<< (x4 &&& 31)), .int (((if (((σ.1 640) - (1 : Int32)) < (0 : Int32)) then (0 : Int32) else ((σ.1 640) - (1 : Int32))) * (256 : Int32)) + (((1 : Int32) <<< ((σ.1 640) &&& 31)) - (1 : Int32))), .ref (ω.2.2.1 15)] σ) :
    V ω κ 44 [(0, .ref (ω.2.2.1 0)), (1, .int x1), (2, .int x2), (3, .int x3), (4, .int x4)] [] σ := by
  refine V_iload 4 K.1 dX8_key_44 rfl ?_
  refine V_aload_n 0 K.1 dX8_key_46 rfl rfl ?_
  refine V_get (v := .ref (ω.2.2.1 10)) K.1 dX8_key_47 rfl rfl fw_X8_21 rfl rfl ?_
  refine V_get (v := .int (σ.1 640)) K.1 dX8_key_50 rfl rfl fw_X8_85 rfl rfl ?_
  refine V_icmp_ge (tgt := 102) K.1 dX8_key_53 (by decide) (fun c53 => ?_) (fun c53 => ?_)
  · refine V_iload_n 1 K.1 dX8_key_102 rfl rfl ?_
    refine V_join (J := 111) (S := []) (v := .int (if (x1 = 0) then x2 else x3)) (fun hJ1 => ?_) ?_
    · refine V_if_ne (tgt := 110) K.1 dX8_key_103 (by decide) (fun c103 => ?_) (fun c103 => ?_)
      · refine V_iload_n 3 K.1 dX8_key_110 rfl rfl ?_
        exact V_top (if_neg c103) hJ1
      · refine V_iload_n 2 K.1 dX8_key_106 rfl rfl ?_
        refine V_goto (tgt := 111) K.1 dX8_key_107 (by decide) ?_
        exact V_top (if_pos c103) hJ1
    exact V_iret K dX8_key_111 (k2 c53)
  · refine V_aload_n 0 K.1 dX8_key_56 rfl rfl ?_
    refine V_get (v := .ref (ω.2.2.1 15)) K.1 dX8_key_57 rfl rfl fw_X8_39 rfl rfl ?_
    refine V_aload_n 0 K.1 dX8_key_60 rfl rfl ?_
    refine V_get (v := .ref (ω.2.2.1 14)) K.1 dX8_key_61 rfl rfl fw_X8_30 rfl rfl ?_
    refine V_callV (d' := d - 1) (As := []) K.1 dX8_key_64 cw_X8_185 rfl rfl rfl (by omega) rfl (by simp [Value.category]) (m_X2_opening K.1.wf (by omega)) (go_I ?_)
    refine V_iconst (v := 1) K.1 dX8_key_67 (by decide) ?_
    refine V_iload 4 K.1 dX8_key_68 rfl ?_
    refine V_ishl K.1 dX8_key_70 ?_
    exact (k3 c53)
set_option maxRecDepth 20000 in
theorem R_X8_key_74 {ω : WT} {κ : KT} {l : Launch} {d : Nat} {post : Option Value → St → Prop} {σ : St} {x1 x2 x3 x4 s0 : Int32}  (K : Cm ω κ l yX8_key cX8_key 6 d (some .int) post)
    (k1 : V ω κ 79 [(0, .ref (ω.2.2.1 0)), (1, .int x1), (2, .int x2), (3, .int x3), (4, .int x4)] [.ref (ω.2.2.1 15)] σ) :
    V ω κ 74 [(0, .ref (ω.2.2.1 0)), (1, .int x1), (2, .int x2), (3, .int x3), (4, .int x4)] [.int s0] σ := by
  refine V_pop K.1 dX8_key_74 rfl ?_
  refine V_aload_n 0 K.1 dX8_key_75 rfl rfl ?_
  refine V_get (v := .ref (ω.2.2.1 15)) K.1 dX8_key_76 rfl rfl fw_X8_39 rfl rfl ?_
  exact k1
set_option maxRecDepth 20000 in
theorem R_X8_key_82 {ω : WT} {κ : KT} {l : Launch} {d : Nat} {post : Option Value → St → Prop} {σ : St} {x1 x2 x3 x4 s0 : Int32}  (K : Cm ω κ l yX8_key cX8_key 6 d (some .int) post)
    (k1 : (s0 ≤ x3) → V ω κ 44 [(0, .ref (ω.2.2.1 0)), (1, .int x1), (2, .int x2), (3, .int x3), (4, .int (x4 + 1))] [] σ)
    (k2 : ¬ (s0 ≤ x3) → V ω κ 44 [(0, .ref (ω.2.2.1 0)), (1, .int x1), (2, .int x4), (3, .int s0), (4, .int (x4 + 1))] [] σ) :
    V ω κ 82 [(0, .ref (ω.2.2.1 0)), (1, .int x1), (2, .int x2), (3, .int x3), (4, .int x4)] [.int s0] σ := by
  refine V_istore (L' := [(0, .ref (ω.2.2.1 0)), (1, .int x1), (2, .int x2), (3, .int x3), (4, .int x4), (5, .int s0)]) K.1 dX8_key_82 (by decide) rfl ?_
  refine V_iload 5 K.1 dX8_key_84 rfl ?_
  refine V_iload_n 3 K.1 dX8_key_86 rfl rfl ?_
  refine V_icmp_le (tgt := 96) K.1 dX8_key_87 (by decide) (fun c87 => ?_) (fun c87 => ?_)
  · refine V_iinc (v := (x4 + 1)) (L' := [(0, .ref (ω.2.2.1 0)), (1, .int x1), (2, .int x2), (3, .int x3), (4, .int (x4 + 1)), (5, .int s0)]) 4 K.1 dX8_key_96 rfl rfl (by decide) rfl ?_
    refine V_goto (tgt := 44) K.1 dX8_key_99 (by decide) ?_
    exact V_sub [0, 1, 2, 3, 4] rfl (k1 c87)
  · refine V_iload 5 K.1 dX8_key_90 rfl ?_
    refine V_istore_n (L' := [(0, .ref (ω.2.2.1 0)), (1, .int x1), (2, .int x2), (3, .int s0), (4, .int x4), (5, .int s0)]) K.1 dX8_key_92 rfl (by decide) rfl ?_
    refine V_iload 4 K.1 dX8_key_93 rfl ?_
    refine V_istore_n (L' := [(0, .ref (ω.2.2.1 0)), (1, .int x1), (2, .int x4), (3, .int s0), (4, .int x4), (5, .int s0)]) K.1 dX8_key_95 rfl (by decide) rfl ?_
    refine V_iinc (v := (x4 + 1)) (L' := [(0, .ref (ω.2.2.1 0)), (1, .int x1), (2, .int x4), (3, .int s0), (4, .int (x4 + 1)), (5, .int s0)]) 4 K.1 dX8_key_96 rfl rfl (by decide) rfl ?_
    refine V_goto (tgt := 44) K.1 dX8_key_99 (by decide) ?_
    exact V_sub [0, 1, 2, 3, 4] rfl (k2 c87)
set_option maxRecDepth 20000 in
theorem C_X8_key_26 {ω : WT} {κ : KT} {l : Launch} {d : Nat} {post : Option Value → St → Prop} {σ : St} {x1 : Int32}  {post' : Option Value → St → Prop} (K : Cm ω κ l yX8_key cX8_key 6 d (some .int) post) (hdp : 1 ≤ d) (hM : Sp ω l yX8_runOnce cX8_runOnce 1 (some .int) (d - 1) [.ref (ω.2.2.1 0)] σ post')
    (kk : ∀ (v : Option Value) (σ' : St), post' v σ' → V ω κ 29 [(0, .ref (ω.2.2.1 0)), (1, .int x1)] (v.toList ++ []) σ') : V ω κ 26 [(0, .ref (ω.2.2.1 0)), (1, .int x1)] [.ref (ω.2.2.1 0)] σ := by
  exact V_callV (d' := d - 1) (As := []) (rest := []) K.1 dX8_key_26 cw_X8_123 rfl rfl rfl (by omega) rfl (by simp [Value.category]) hM (fun v σ' h => kk v σ' h)
set_option maxRecDepth 20000 in
theorem C_X8_key_71 {ω : WT} {κ : KT} {l : Launch} {d : Nat} {post : Option Value → St → Prop} {σ : St} {x1 x2 x3 x4 s1 s2 : Int32}  {post' : Option Value → St → Prop} (K : Cm ω κ l yX8_key cX8_key 6 d (some .int) post) (hdp : 1 ≤ d) (hM : Sp ω l yX0_go cX0_go 5 (some .int) (d - 1) [.ref (ω.2.2.1 15), .int s1, .int s2] σ post')
    (kk : ∀ (v : Option Value) (σ' : St), post' v σ' → V ω κ 74 [(0, .ref (ω.2.2.1 0)), (1, .int x1), (2, .int x2), (3, .int x3), (4, .int x4)] (v.toList ++ []) σ') : V ω κ 71 [(0, .ref (ω.2.2.1 0)), (1, .int x1), (2, .int x2), (3, .int x3), (4, .int x4)] [.int s2, .int s1, .ref (ω.2.2.1 15)] σ := by
  exact V_callV (d' := d - 1) (As := [.int s1, .int s2]) (rest := []) K.1 dX8_key_71 cw_X8_188 rfl rfl rfl (by omega) rfl (by simp [Value.category]) hM (fun v σ' h => kk v σ' h)
set_option maxRecDepth 20000 in
theorem C_X8_key_79 {ω : WT} {κ : KT} {l : Launch} {d : Nat} {post : Option Value → St → Prop} {σ : St} {x1 x2 x3 x4 : Int32}  {post' : Option Value → St → Prop} (K : Cm ω κ l yX8_key cX8_key 6 d (some .int) post) (hdp : 1 ≤ d) (hM : Sp ω l yX0_countChanged cX0_countChanged 3 (some .int) (d - 1) [.ref (ω.2.2.1 15)] σ post')
    (kk : ∀ (v : Option Value) (σ' : St), post' v σ' → V ω κ 82 [(0, .ref (ω.2.2.1 0)), (1, .int x1), (2, .int x2), (3, .int x3), (4, .int x4)] (v.toList ++ []) σ') : V ω κ 79 [(0, .ref (ω.2.2.1 0)), (1, .int x1), (2, .int x2), (3, .int x3), (4, .int x4)] [.ref (ω.2.2.1 15)] σ := by
  exact V_callV (d' := d - 1) (As := []) (rest := []) K.1 dX8_key_79 cw_X8_191 rfl rfl rfl (by omega) rfl (by simp [Value.category]) hM (fun v σ' h => kk v σ' h)
set_option maxRecDepth 20000 in
theorem R_X9_key_0 {ω : WT} {κ : KT} {l : Launch} {d : Nat} {post : Option Value → St → Prop} {σ : St} {x1 : Int32}  (K : Cm ω κ l yX9_key cX9_key 7 d (some .int) post) (hdp : 1 ≤ d)
    (k1 : ¬ ((if (x1 < (0 : Int32)) then (0 : Int32) else (if ((1 : Int32) < x1) then (0 : Int32) else (1 : Int32))) = 0) → ¬ ((if ((σ.1 2245) ≤ 0) then (0 : Int32) else (1 : Int32)) = 0) → V ω κ 23 [(0, .ref (ω.2.2.1 35)), (1, .int x1)] [.ref (ω.2.2.1 35)] σ)
    (k2 : ¬ ((if (x1 < (0 : Int32)) then (0 : Int32) else (if ((1 : Int32) < x1) then (0 : Int32) else (1 : Int32))) = 0) → ((if ((σ.1 2245) ≤ 0) then (0 : Int32) else (1 : Int32)) = 0) → post (some (.int (-3 : Int32))) σ)
    (k3 : ((if (x1 < (0 : Int32)) then (0 : Int32) else (if ((1 : Int32) < x1) then (0 : Int32) else (1 : Int32))) = 0) → post (some (.int (-2 : Int32))) σ) :
    V ω κ 0 [(0, .ref (ω.2.2.1 35)), (1, .int x1)] [] σ := by
  refine V_iload_n 1 K.1 dX9_key_0 rfl rfl ?_
  refine V_iconst (v := 0) K.1 dX9_key_1 (by decide) ?_
  refine V_iconst (v := 1) K.1 dX9_key_2 (by decide) ?_
  refine V_callS (d' := d - 1) (As := [.int x1, .int (0 : Int32), .int (1 : Int32)]) K.1 dX9_key_3 cw_X9_87 rfl (by omega) rfl (by simp [Value.category]) (m_X9_within K.1.wf (by omega)) (go_I ?_)
  refine V_if_ne (tgt := 12) K.1 dX9_key_6 (by decide) (fun c6 => ?_) (fun c6 => ?_)
  · refine V_aload_n 0 K.1 dX9_key_12 rfl rfl ?_
    refine V_callV (d' := d - 1) (As := []) K.1 dX9_key_13 cw_X9_146 rfl rfl rfl (by omega) rfl (by simp [Value.category]) (m_X9_isTown K.1.wf (by omega)) (go_I ?_)
    refine V_if_ne (tgt := 22) K.1 dX9_key_16 (by decide) (fun c16 => ?_) (fun c16 => ?_)
    · refine V_aload_n 0 K.1 dX9_key_22 rfl rfl ?_
      exact (k1 c6 c16)
    · refine V_bipush (v := -3) K.1 dX9_key_19 (by decide) ?_
      exact V_iret K dX9_key_21 (k2 c6 c16)
  · refine V_bipush (v := -2) K.1 dX9_key_9 (by decide) ?_
    exact V_iret K dX9_key_11 (k3 c6)
set_option maxRecDepth 20000 in
theorem R_X9_key_26 {ω : WT} {κ : KT} {l : Launch} {d : Nat} {post : Option Value → St → Prop} {σ : St} {x1 : Int32}  (K : Cm ω κ l yX9_key cX9_key 7 d (some .int) post)
    (k1 : V ω κ 28 [(0, .ref (ω.2.2.1 35)), (1, .int x1), (2, .int (0 : Int32))] [] σ) :
    V ω κ 26 [(0, .ref (ω.2.2.1 35)), (1, .int x1)] [] σ := by
  refine V_iconst (v := 0) K.1 dX9_key_26 (by decide) ?_
  refine V_istore_n (L' := [(0, .ref (ω.2.2.1 35)), (1, .int x1), (2, .int (0 : Int32))]) K.1 dX9_key_27 rfl (by decide) rfl ?_
  exact k1
set_option maxRecDepth 20000 in
theorem R_X9_key_28 {ω : WT} {κ : KT} {l : Launch} {d : Nat} {post : Option Value → St → Prop} {σ : St} {x1 x2 : Int32}  (K : Cm ω κ l yX9_key cX9_key 7 d (some .int) post)
    (k1 : ((σ.1 2251) ≤ x2) → V ω κ 61 [(0, .ref (ω.2.2.1 35)), (1, .int x1), (2, .int (0 : Int32)), (3, .int (-1 : Int32)), (4, .int (0 : Int32))] [] σ)
    (b2 : ¬ ((σ.1 2251) ≤ x2) → vp_in x2 6)
    (b3 : ¬ ((σ.1 2251) ≤ x2) → vp_in x2 6)
    (k4 : ¬ ((σ.1 2251) ≤ x2) → V ω κ 28 [(0, .ref (ω.2.2.1 35)), (1, .int x1), (2, .int (x2 + 1))] [] (pA σ 56 (x2).toNatClampNeg (σ.2.1 46 (x2).toNatClampNeg))) :
    V ω κ 28 [(0, .ref (ω.2.2.1 35)), (1, .int x1), (2, .int x2)] [] σ := by
  refine V_iload_n 2 K.1 dX9_key_28 rfl rfl ?_
  refine V_aload_n 0 K.1 dX9_key_29 rfl rfl ?_
  refine V_get (v := .int (σ.1 2251)) K.1 dX9_key_30 rfl rfl fw_X9_130 rfl rfl ?_
  refine V_icmp_ge (tgt := 54) K.1 dX9_key_33 (by decide) (fun c33 => ?_) (fun c33 => ?_)
  · refine V_iconst (v := 0) K.1 dX9_key_54 (by decide) ?_
    refine V_istore_n (L' := [(0, .ref (ω.2.2.1 35)), (1, .int x1), (2, .int (0 : Int32))]) K.1 dX9_key_55 rfl (by decide) rfl ?_
    refine V_iconst (v := -1) K.1 dX9_key_56 (by decide) ?_
    refine V_istore_n (L' := [(0, .ref (ω.2.2.1 35)), (1, .int x1), (2, .int (0 : Int32)), (3, .int (-1 : Int32))]) K.1 dX9_key_57 rfl (by decide) rfl ?_
    refine V_iconst (v := 0) K.1 dX9_key_58 (by decide) ?_
    refine V_istore (L' := [(0, .ref (ω.2.2.1 35)), (1, .int x1), (2, .int (0 : Int32)), (3, .int (-1 : Int32)), (4, .int (0 : Int32))]) K.1 dX9_key_59 (by decide) rfl ?_
    exact (k1 c33)
  · refine V_aload_n 0 K.1 dX9_key_36 rfl rfl ?_
    refine V_get (v := .ref (ω.2.2.1 56)) K.1 dX9_key_37 rfl rfl fw_X9_71 rfl rfl ?_
    refine V_iload_n 2 K.1 dX9_key_40 rfl rfl ?_
    refine V_aload_n 0 K.1 dX9_key_41 rfl rfl ?_
    refine V_get (v := .ref (ω.2.2.1 46)) K.1 dX9_key_42 rfl rfl fw_X9_40 rfl rfl ?_
    refine V_iload_n 2 K.1 dX9_key_45 rfl rfl ?_
    refine V_iaload (v := (σ.2.1 46 (x2).toNatClampNeg)) K.1 dX9_key_46 rfl (b2 c33) rfl ?_
    refine V_iastore K.1 dX9_key_47 rfl (b3 c33) ?_
    refine V_iinc (v := (x2 + 1)) (L' := [(0, .ref (ω.2.2.1 35)), (1, .int x1), (2, .int (x2 + 1))]) 2 K.1 dX9_key_48 rfl rfl (by decide) rfl ?_
    refine V_goto (tgt := 28) K.1 dX9_key_51 (by decide) ?_
    exact (k4 c33)
set_option maxRecDepth 20000 in
theorem R_X9_key_61 {ω : WT} {κ : KT} {l : Launch} {d : Nat} {post : Option Value → St → Prop} {σ : St} {x1 x2 x3 x4 : Int32}  (K : Cm ω κ l yX9_key cX9_key 7 d (some .int) post)
    (k2 : ((σ.1 2245) ≤ x4) → post (some (.int (if (x1 = 0) then x2 else x3))) σ)
    (b3 : ¬ ((σ.1 2245) ≤ x4) → vp_in x4 8)
    (b4 : ¬ ((σ.1 2245) ≤ x4) → vp_in x4 8)
    (k5 : ¬ ((σ.1 2245) ≤ x4) → V ω κ 94 [(0, .ref (ω.2.2.1 35)), (1, .int x1), (2, .int x2), (3, .int x3), (4, .int x4)] [.ref (ω.2.2.1 35)] (pA σ 40 (x4).toNatClampNeg ((((1 : Int32) <<< ((σ.1 2246) &&& 31)) - (1 : Int32)) - (σ.2.1 40 (x4).toNatClampNeg)))) :
    V ω κ 61 [(0, .ref (ω.2.2.1 35)), (1, .int x1), (2, .int x2), (3, .int x3), (4, .int x4)] [] σ := by
  refine V_iload 4 K.1 dX9_key_61 rfl ?_
  refine V_aload_n 0 K.1 dX9_key_63 rfl rfl ?_
  refine V_get (v := .int (σ.1 2245)) K.1 dX9_key_64 rfl rfl fw_X9_91 rfl rfl ?_
  refine V_icmp_ge (tgt := 186) K.1 dX9_key_67 (by decide) (fun c67 => ?_) (fun c67 => ?_)
  · refine V_iload_n 1 K.1 dX9_key_186 rfl rfl ?_
    refine V_join (J := 195) (S := []) (v := .int (if (x1 = 0) then x2 else x3)) (fun hJ1 => ?_) ?_
    · refine V_if_ne (tgt := 194) K.1 dX9_key_187 (by decide) (fun c187 => ?_) (fun c187 => ?_)
      · refine V_iload_n 3 K.1 dX9_key_194 rfl rfl ?_
        exact V_top (if_neg c187) hJ1
      · refine V_iload_n 2 K.1 dX9_key_190 rfl rfl ?_
        refine V_goto (tgt := 195) K.1 dX9_key_191 (by decide) ?_
        exact V_top (if_pos c187) hJ1
    exact V_iret K dX9_key_195 (k2 c67)
  · refine V_aload_n 0 K.1 dX9_key_70 rfl rfl ?_
    refine V_get (v := .ref (ω.2.2.1 40)) K.1 dX9_key_71 rfl rfl fw_X9_22 rfl rfl ?_
    refine V_iload 4 K.1 dX9_key_74 rfl ?_
    refine V_iconst (v := 1) K.1 dX9_key_76 (by decide) ?_
    refine V_aload_n 0 K.1 dX9_key_77 rfl rfl ?_
    refine V_get (v := .int (σ.1 2246)) K.1 dX9_key_78 rfl rfl fw_X9_94 rfl rfl ?_
    refine V_ishl K.1 dX9_key_81 ?_
    refine V_iconst (v := 1) K.1 dX9_key_82 (by decide) ?_
    refine V_isub K.1 dX9_key_83 ?_
    refine V_aload_n 0 K.1 dX9_key_84 rfl rfl ?_
    refine V_get (v := .ref (ω.2.2.1 40)) K.1 dX9_key_85 rfl rfl fw_X9_22 rfl rfl ?_
    refine V_iload 4 K.1 dX9_key_88 rfl ?_
    refine V_iaload (v := (σ.2.1 40 (x4).toNatClampNeg)) K.1 dX9_key_90 rfl (b3 c67) rfl ?_
    refine V_isub K.1 dX9_key_91 ?_
    refine V_iastore K.1 dX9_key_92 rfl (b4 c67) ?_
    refine V_aload_n 0 K.1 dX9_key_93 rfl rfl ?_
    exact (k5 c67)
set_option maxRecDepth 20000 in
theorem R_X9_key_97 {ω : WT} {κ : KT} {l : Launch} {d : Nat} {post : Option Value → St → Prop} {σ : St} {x1 x2 x3 x4 : Int32}  (K : Cm ω κ l yX9_key cX9_key 7 d (some .int) post)
    (b1 : vp_in x4 8)
    (b2 : vp_in x4 8)
    (k3 : V ω κ 126 [(0, .ref (ω.2.2.1 35)), (1, .int x1), (2, .int x2), (3, .int x3), (4, .int x4), (5, .int (0 : Int32)), (6, .int (0 : Int32))] [] (pA σ 40 (x4).toNatClampNeg ((((1 : Int32) <<< ((σ.1 2246) &&& 31)) - (1 : Int32)) - (σ.2.1 40 (x4).toNatClampNeg)))) :
    V ω κ 97 [(0, .ref (ω.2.2.1 35)), (1, .int x1), (2, .int x2), (3, .int x3), (4, .int x4)] [] σ := by
  refine V_aload_n 0 K.1 dX9_key_97 rfl rfl ?_
  refine V_get (v := .ref (ω.2.2.1 40)) K.1 dX9_key_98 rfl rfl fw_X9_22 rfl rfl ?_
  refine V_iload 4 K.1 dX9_key_101 rfl ?_
  refine V_iconst (v := 1) K.1 dX9_key_103 (by decide) ?_
  refine V_aload_n 0 K.1 dX9_key_104 rfl rfl ?_
  refine V_get (v := .int (σ.1 2246)) K.1 dX9_key_105 rfl rfl fw_X9_94 rfl rfl ?_
  refine V_ishl K.1 dX9_key_108 ?_
  refine V_iconst (v := 1) K.1 dX9_key_109 (by decide) ?_
  refine V_isub K.1 dX9_key_110 ?_
  refine V_aload_n 0 K.1 dX9_key_111 rfl rfl ?_
  refine V_get (v := .ref (ω.2.2.1 40)) K.1 dX9_key_112 rfl rfl fw_X9_22 rfl rfl ?_
  refine V_iload 4 K.1 dX9_key_115 rfl ?_
  refine V_iaload (v := (σ.2.1 40 (x4).toNatClampNeg)) K.1 dX9_key_117 rfl b1 rfl ?_
  refine V_isub K.1 dX9_key_118 ?_
  refine V_iastore K.1 dX9_key_119 rfl b2 ?_
  refine V_iconst (v := 0) K.1 dX9_key_120 (by decide) ?_
  refine V_istore (L' := [(0, .ref (ω.2.2.1 35)), (1, .int x1), (2, .int x2), (3, .int x3), (4, .int x4), (5, .int (0 : Int32))]) K.1 dX9_key_121 (by decide) rfl ?_
  refine V_iconst (v := 0) K.1 dX9_key_123 (by decide) ?_
  refine V_istore (L' := [(0, .ref (ω.2.2.1 35)), (1, .int x1), (2, .int x2), (3, .int x3), (4, .int x4), (5, .int (0 : Int32)), (6, .int (0 : Int32))]) K.1 dX9_key_124 (by decide) rfl ?_
  exact k3
set_option maxRecDepth 20000 in
theorem R_X9_key_126 {ω : WT} {κ : KT} {l : Launch} {d : Nat} {post : Option Value → St → Prop} {σ : St} {x1 x2 x3 x4 x5 x6 : Int32}  (K : Cm ω κ l yX9_key cX9_key 7 d (some .int) post)
    (k1 : ((σ.1 2251) ≤ x6) → (x5 ≤ x3) → V ω κ 61 [(0, .ref (ω.2.2.1 35)), (1, .int x1), (2, .int x2), (3, .int x3), (4, .int (x4 + 1))] [] σ)
    (k2 : ((σ.1 2251) ≤ x6) → ¬ (x5 ≤ x3) → V ω κ 61 [(0, .ref (ω.2.2.1 35)), (1, .int x1), (2, .int x4), (3, .int x5), (4, .int (x4 + 1))] [] σ)
    (b3 : ¬ ((σ.1 2251) ≤ x6) → vp_in x6 6)
    (b4 : ¬ ((σ.1 2251) ≤ x6) → vp_in x6 6)
    (k6 : ¬ ((σ.1 2251) ≤ x6) → V ω κ 126 [(0, .ref (ω.2.2.1 35)), (1, .int x1), (2, .int x2), (3, .int x3), (4, .int x4), (5, .int (x5 + (if ((σ.2.1 46 (x6).toNatClampNeg) = (σ.2.1 56 (x6).toNatClampNeg)) then (0 : Int32) else (1 : Int32)))), (6, .int (x6 + 1))] [] σ) :
    V ω κ 126 [(0, .ref (ω.2.2.1 35)), (1, .int x1), (2, .int x2), (3, .int x3), (4, .int x4), (5, .int x5), (6, .int x6)] [] σ := by
  refine V_iload 6 K.1 dX9_key_126 rfl ?_
  refine V_aload_n 0 K.1 dX9_key_128 rfl rfl ?_
  refine V_get (v := .int (σ.1 2251)) K.1 dX9_key_129 rfl rfl fw_X9_130 rfl rfl ?_
  refine V_icmp_ge (tgt := 168) K.1 dX9_key_132 (by decide) (fun c132 => ?_) (fun c132 => ?_)
  · refine V_iload 5 K.1 dX9_key_168 rfl ?_
    refine V_iload_n 3 K.1 dX9_key_170 rfl rfl ?_
    refine V_icmp_le (tgt := 180) K.1 dX9_key_171 (by decide) (fun c171 => ?_) (fun c171 => ?_)
    · refine V_iinc (v := (x4 + 1)) (L' := [(0, .ref (ω.2.2.1 35)), (1, .int x1), (2, .int x2), (3, .int x3), (4, .int (x4 + 1)), (5, .int x5), (6, .int x6)]) 4 K.1 dX9_key_180 rfl rfl (by decide) rfl ?_
      refine V_goto (tgt := 61) K.1 dX9_key_183 (by decide) ?_
      exact V_sub [0, 1, 2, 3, 4] rfl (k1 c132 c171)
    · refine V_iload 5 K.1 dX9_key_174 rfl ?_
      refine V_istore_n (L' := [(0, .ref (ω.2.2.1 35)), (1, .int x1), (2, .int x2), (3, .int x5), (4, .int x4), (5, .int x5), (6, .int x6)]) K.1 dX9_key_176 rfl (by decide) rfl ?_
      refine V_iload 4 K.1 dX9_key_177 rfl ?_
      refine V_istore_n (L' := [(0, .ref (ω.2.2.1 35)), (1, .int x1), (2, .int x4), (3, .int x5), (4, .int x4), (5, .int x5), (6, .int x6)]) K.1 dX9_key_179 rfl (by decide) rfl ?_
      refine V_iinc (v := (x4 + 1)) (L' := [(0, .ref (ω.2.2.1 35)), (1, .int x1), (2, .int x4), (3, .int x5), (4, .int (x4 + 1)), (5, .int x5), (6, .int x6)]) 4 K.1 dX9_key_180 rfl rfl (by decide) rfl ?_
      refine V_goto (tgt := 61) K.1 dX9_key_183 (by decide) ?_
      exact V_sub [0, 1, 2, 3, 4] rfl (k2 c132 c171)
  · refine V_iload 5 K.1 dX9_key_135 rfl ?_
    refine V_aload_n 0 K.1 dX9_key_137 rfl rfl ?_
    refine V_get (v := .ref (ω.2.2.1 46)) K.1 dX9_key_138 rfl rfl fw_X9_40 rfl rfl ?_
    refine V_iload 6 K.1 dX9_key_141 rfl ?_
    refine V_iaload (v := (σ.2.1 46 (x6).toNatClampNeg)) K.1 dX9_key_143 rfl (b3 c132) rfl ?_
    refine V_aload_n 0 K.1 dX9_key_144 rfl rfl ?_
    refine V_get (v := .ref (ω.2.2.1 56)) K.1 dX9_key_145 rfl rfl fw_X9_71 rfl rfl ?_
    refine V_iload 6 K.1 dX9_key_148 rfl ?_
    refine V_iaload (v := (σ.2.1 56 (x6).toNatClampNeg)) K.1 dX9_key_150 rfl (b4 c132) rfl ?_
    refine V_join (J := 159) (S := [.int x5]) (v := .int (if ((σ.2.1 46 (x6).toNatClampNeg) = (σ.2.1 56 (x6).toNatClampNeg)) then (0 : Int32) else (1 : Int32))) (fun hJ5 => ?_) ?_
    · refine V_icmp_ne (tgt := 158) K.1 dX9_key_151 (by decide) (fun c151 => ?_) (fun c151 => ?_)
      · refine V_iconst (v := 1) K.1 dX9_key_158 (by decide) ?_
        exact V_top (if_neg c151) hJ5
      · refine V_iconst (v := 0) K.1 dX9_key_154 (by decide) ?_
        refine V_goto (tgt := 159) K.1 dX9_key_155 (by decide) ?_
        exact V_top (if_pos c151) hJ5
    refine V_iadd K.1 dX9_key_159 ?_
    refine V_istore (L' := [(0, .ref (ω.2.2.1 35)), (1, .int x1), (2, .int x2), (3, .int x3), (4, .int x4), (5, .int (x5 + (if ((σ.2.1 46 (x6).toNatClampNeg) = (σ.2.1 56 (x6).toNatClampNeg)) then (0 : Int32) else (1 : Int32)))), (6, .int x6)]) K.1 dX9_key_160 (by decide) rfl ?_
    refine V_iinc (v := (x6 + 1)) (L' := [(0, .ref (ω.2.2.1 35)), (1, .int x1), (2, .int x2), (3, .int x3), (4, .int x4), (5, .int (x5 + (if ((σ.2.1 46 (x6).toNatClampNeg) = (σ.2.1 56 (x6).toNatClampNeg)) then (0 : Int32) else (1 : Int32)))), (6, .int (x6 + 1))]) 6 K.1 dX9_key_162 rfl rfl (by decide) rfl ?_
    refine V_goto (tgt := 126) K.1 dX9_key_165 (by decide) ?_
    exact (k6 c132)
set_option maxRecDepth 20000 in
theorem C_X9_key_23 {ω : WT} {κ : KT} {l : Launch} {d : Nat} {post : Option Value → St → Prop} {σ : St} {x1 : Int32}  {post' : Option Value → St → Prop} (K : Cm ω κ l yX9_key cX9_key 7 d (some .int) post) (hdp : 1 ≤ d) (hM : Sp ω l yX9_goFirst cX9_goFirst 1 none (d - 1) [.ref (ω.2.2.1 35)] σ post')
    (kk : ∀ (v : Option Value) (σ' : St), post' v σ' → V ω κ 26 [(0, .ref (ω.2.2.1 35)), (1, .int x1)] (v.toList ++ []) σ') : V ω κ 23 [(0, .ref (ω.2.2.1 35)), (1, .int x1)] [.ref (ω.2.2.1 35)] σ := by
  exact V_callV (d' := d - 1) (As := []) (rest := []) K.1 dX9_key_23 cw_X9_212 rfl rfl rfl (by omega) rfl (by simp [Value.category]) hM (fun v σ' h => kk v σ' h)
set_option maxRecDepth 20000 in
theorem C_X9_key_94 {ω : WT} {κ : KT} {l : Launch} {d : Nat} {post : Option Value → St → Prop} {σ : St} {x1 x2 x3 x4 : Int32}  {post' : Option Value → St → Prop} (K : Cm ω κ l yX9_key cX9_key 7 d (some .int) post) (hdp : 1 ≤ d) (hM : Sp ω l yX9_goFirst cX9_goFirst 1 none (d - 1) [.ref (ω.2.2.1 35)] σ post')
    (kk : ∀ (v : Option Value) (σ' : St), post' v σ' → V ω κ 97 [(0, .ref (ω.2.2.1 35)), (1, .int x1), (2, .int x2), (3, .int x3), (4, .int x4)] (v.toList ++ []) σ') : V ω κ 94 [(0, .ref (ω.2.2.1 35)), (1, .int x1), (2, .int x2), (3, .int x3), (4, .int x4)] [.ref (ω.2.2.1 35)] σ := by
  exact V_callV (d' := d - 1) (As := []) (rest := []) K.1 dX9_key_94 cw_X9_212 rfl rfl rfl (by omega) rfl (by simp [Value.category]) hM (fun v σ' h => kk v σ' h)
