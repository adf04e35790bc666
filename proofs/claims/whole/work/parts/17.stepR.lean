set_option maxRecDepth 20000 in
theorem R_X2_slotOf_0 {ω : WT} {κ : KT} {l : Launch} {d : Nat} {post : Option Value → St → Prop} {σ : St} {x1 : Int32}  (K : Cm ω κ l yX2_slotOf cX2_slotOf 3 d (some .int) post) (hdp : 1 ≤ d)
    (k2 : post (some (.int (if ((σ.1 898) = (2 : Int32)) then ((((x1 / (256 : Int32)) * (2 : Int32)) * (8 : Int32)) + (F_bc (x1 &&& (255 : Int32)))) else (x1 &&& (255 : Int32))))) σ) :
    V ω κ 0 [(0, .ref (ω.2.2.1 14)), (1, .int x1)] [] σ := by
  refine V_iload_n 1 K.1 dX2_slotOf_0 rfl rfl ?_
  refine V_callS (d' := d - 1) (As := [.int x1]) K.1 dX2_slotOf_1 cw_X2_43 rfl (by omega) rfl (by simp [Value.category]) (m_X2_sittingAt K.1.wf (by omega)) (go_I ?_)
  refine V_istore_n (L' := [(0, .ref (ω.2.2.1 14)), (1, .int x1), (2, .int (x1 &&& (255 : Int32)))]) K.1 dX2_slotOf_4 rfl (by decide) rfl ?_
  refine V_aload_n 0 K.1 dX2_slotOf_5 rfl rfl ?_
  refine V_get (v := .int (σ.1 898)) K.1 dX2_slotOf_6 rfl rfl fw_X2_19 rfl rfl ?_
  refine V_iconst (v := 2) K.1 dX2_slotOf_9 (by decide) ?_
  refine V_join (J := 32) (S := []) (v := .int (if ((σ.1 898) = (2 : Int32)) then ((((x1 / (256 : Int32)) * (2 : Int32)) * (8 : Int32)) + (F_bc (x1 &&& (255 : Int32)))) else (x1 &&& (255 : Int32)))) (fun hJ1 => ?_) ?_
  · refine V_icmp_ne (tgt := 31) K.1 dX2_slotOf_10 (by decide) (fun c10 => ?_) (fun c10 => ?_)
    · refine V_iload_n 2 K.1 dX2_slotOf_31 rfl rfl ?_
      exact V_top (if_neg c10) hJ1
    · refine V_iload_n 1 K.1 dX2_slotOf_13 rfl rfl ?_
      refine V_sipush (v := 256) K.1 dX2_slotOf_14 (by decide) ?_
      refine V_idiv K.1 dX2_slotOf_17 (by decide) ?_
      refine V_iconst (v := 2) K.1 dX2_slotOf_18 (by decide) ?_
      refine V_imul K.1 dX2_slotOf_19 ?_
      refine V_bipush (v := 8) K.1 dX2_slotOf_20 (by decide) ?_
      refine V_imul K.1 dX2_slotOf_22 ?_
      refine V_iload_n 2 K.1 dX2_slotOf_23 rfl rfl ?_
      refine V_callS (d' := d - 1) (As := [.int (x1 &&& (255 : Int32))]) K.1 dX2_slotOf_24 cw_X2_47 rfl (by omega) rfl (by simp [Value.category]) (m_J6_bitCount_0f7a4 K.1.wf (by omega)) (go_I ?_)
      refine V_iadd K.1 dX2_slotOf_27 ?_
      refine V_goto (tgt := 32) K.1 dX2_slotOf_28 (by decide) ?_
      exact V_top (if_pos c10) hJ1
  exact V_iret K dX2_slotOf_32 k2
theorem m_X2_slotOf {ω : WT} {l : Launch} {d : Nat} {σ : St} {x1 : Int32}  (hWf : Wf ω) (hd : 1 ≤ d) :
    Sp ω l yX2_slotOf cX2_slotOf 3 (some .int) d [.ref (ω.2.2.1 14), .int x1] σ (rI (if ((σ.1 898) = (2 : Int32)) then ((((x1 / (256 : Int32)) * (2 : Int32)) * (8 : Int32)) + (F_bc (x1 &&& (255 : Int32)))) else (x1 &&& (255 : Int32))) σ) :=
  Sp.of (by decide) (Nat.le_of_ble_eq_true rfl) hWf (fun κ K => R_X2_slotOf_0  K hd ⟨rfl, rfl⟩)
set_option maxRecDepth 20000 in
theorem R_X2_winnersFirst_0 {ω : WT} {κ : KT} {l : Launch} {d : Nat} {post : Option Value → St → Prop} {σ : St} {x1 : Int32}  (K : Cm ω κ l yX2_winnersFirst cX2_winnersFirst 4 d (some .int) post)
    (k2 : V ω κ 29 [(0, .ref (ω.2.2.1 14)), (1, .int x1), (2, .int (if ((σ.1 900) = (1 : Int32)) then (σ.1 899) else (x1 &&& ((σ.1 899) ^^^ (-1 : Int32)))))] [.int (σ.1 901), .int (if ((σ.1 900) = (1 : Int32)) then (σ.1 899) else (x1 &&& ((σ.1 899) ^^^ (-1 : Int32))))] σ) :
    V ω κ 0 [(0, .ref (ω.2.2.1 14)), (1, .int x1)] [] σ := by
  refine V_aload_n 0 K.1 dX2_winnersFirst_0 rfl rfl ?_
  refine V_get (v := .int (σ.1 900)) K.1 dX2_winnersFirst_1 rfl rfl fw_X2_55 rfl rfl ?_
  refine V_iconst (v := 1) K.1 dX2_winnersFirst_4 (by decide) ?_
  refine V_join (J := 23) (S := []) (v := .int (if ((σ.1 900) = (1 : Int32)) then (σ.1 899) else (x1 &&& ((σ.1 899) ^^^ (-1 : Int32))))) (fun hJ1 => ?_) ?_
  · refine V_icmp_ne (tgt := 15) K.1 dX2_winnersFirst_5 (by decide) (fun c5 => ?_) (fun c5 => ?_)
    · refine V_iload_n 1 K.1 dX2_winnersFirst_15 rfl rfl ?_
      refine V_aload_n 0 K.1 dX2_winnersFirst_16 rfl rfl ?_
      refine V_get (v := .int (σ.1 899)) K.1 dX2_winnersFirst_17 rfl rfl fw_X2_52 rfl rfl ?_
      refine V_iconst (v := -1) K.1 dX2_winnersFirst_20 (by decide) ?_
      refine V_ixor K.1 dX2_winnersFirst_21 ?_
      refine V_iand K.1 dX2_winnersFirst_22 ?_
      exact V_top (if_neg c5) hJ1
    · refine V_aload_n 0 K.1 dX2_winnersFirst_8 rfl rfl ?_
      refine V_get (v := .int (σ.1 899)) K.1 dX2_winnersFirst_9 rfl rfl fw_X2_52 rfl rfl ?_
      refine V_goto (tgt := 23) K.1 dX2_winnersFirst_12 (by decide) ?_
      exact V_top (if_pos c5) hJ1
  refine V_istore_n (L' := [(0, .ref (ω.2.2.1 14)), (1, .int x1), (2, .int (if ((σ.1 900) = (1 : Int32)) then (σ.1 899) else (x1 &&& ((σ.1 899) ^^^ (-1 : Int32)))))]) K.1 dX2_winnersFirst_23 rfl (by decide) rfl ?_
  refine V_iload_n 2 K.1 dX2_winnersFirst_24 rfl rfl ?_
  refine V_aload_n 0 K.1 dX2_winnersFirst_25 rfl rfl ?_
  refine V_get (v := .int (σ.1 901)) K.1 dX2_winnersFirst_26 rfl rfl fw_X2_58 rfl rfl ?_
  exact k2
set_option maxRecDepth 20000 in
theorem R_X2_winnersFirst_32 {ω : WT} {κ : KT} {l : Launch} {d : Nat} {post : Option Value → St → Prop} {σ : St} {x1 x2 s0 : Int32}  (K : Cm ω κ l yX2_winnersFirst cX2_winnersFirst 4 d (some .int) post) (hdp : 1 ≤ d)
    (k1 : V ω κ 48 [(0, .ref (ω.2.2.1 14)), (1, .int x1)] [.int ((σ.1 901) - (F_bc s0)), .int (x1 &&& (x2 ^^^ (-1 : Int32))), .int s0] σ) :
    V ω κ 32 [(0, .ref (ω.2.2.1 14)), (1, .int x1), (2, .int x2)] [.int s0] σ := by
  refine V_istore_n (L' := [(0, .ref (ω.2.2.1 14)), (1, .int x1), (2, .int x2), (3, .int s0)]) K.1 dX2_winnersFirst_32 rfl (by decide) rfl ?_
  refine V_iload_n 3 K.1 dX2_winnersFirst_33 rfl rfl ?_
  refine V_iload_n 1 K.1 dX2_winnersFirst_34 rfl rfl ?_
  refine V_iload_n 2 K.1 dX2_winnersFirst_35 rfl rfl ?_
  refine V_iconst (v := -1) K.1 dX2_winnersFirst_36 (by decide) ?_
  refine V_ixor K.1 dX2_winnersFirst_37 ?_
  refine V_iand K.1 dX2_winnersFirst_38 ?_
  refine V_aload_n 0 K.1 dX2_winnersFirst_39 rfl rfl ?_
  refine V_get (v := .int (σ.1 901)) K.1 dX2_winnersFirst_40 rfl rfl fw_X2_58 rfl rfl ?_
  refine V_iload_n 3 K.1 dX2_winnersFirst_43 rfl rfl ?_
  refine V_callS (d' := d - 1) (As := [.int s0]) K.1 dX2_winnersFirst_44 cw_X2_47 rfl (by omega) rfl (by simp [Value.category]) (m_J6_bitCount_0f7a4 K.1.wf (by omega)) (go_I ?_)
  refine V_isub K.1 dX2_winnersFirst_47 ?_
  exact V_sub [0, 1] rfl k1
set_option maxRecDepth 20000 in
theorem R_X2_winnersFirst_51 {ω : WT} {κ : KT} {l : Launch} {d : Nat} {post : Option Value → St → Prop} {σ : St} {x1 s0 s1 : Int32}  (K : Cm ω κ l yX2_winnersFirst cX2_winnersFirst 4 d (some .int) post) (hdp : 1 ≤ d)
    (k1 : V ω κ 74 [] [.int ((σ.1 901) - (F_bc (s0 ||| s1))), .int ((((1 : Int32) <<< ((σ.1 640) &&& 31)) - (1 : Int32)) &&& (x1 ^^^ (-1 : Int32))), .int (s0 ||| s1)] σ) :
    V ω κ 51 [(0, .ref (ω.2.2.1 14)), (1, .int x1)] [.int s1, .int s0] σ := by
  refine V_ior K.1 dX2_winnersFirst_51 ?_
  refine V_istore_n (L' := [(0, .ref (ω.2.2.1 14)), (1, .int x1), (3, .int (s0 ||| s1))]) K.1 dX2_winnersFirst_52 rfl (by decide) rfl ?_
  refine V_iload_n 2 K.1 dX2_winnersFirst_53 rfl rfl ?_
  refine V_aload_n 0 K.1 dX2_winnersFirst_54 rfl rfl ?_
  refine V_get (v := .ref (ω.2.2.1 10)) K.1 dX2_winnersFirst_55 rfl rfl fw_X2_9 rfl rfl ?_
  refine V_callV (d' := d - 1) (As := []) K.1 dX2_winnersFirst_58 cw_X2_39 rfl rfl rfl (by omega) rfl (by simp [Value.category]) (m_X7_everybody K.1.wf (by omega)) (go_I ?_)
  refine V_iload_n 1 K.1 dX2_winnersFirst_61 rfl rfl ?_
  refine V_iconst (v := -1) K.1 dX2_winnersFirst_62 (by decide) ?_
  refine V_ixor K.1 dX2_winnersFirst_63 ?_
  refine V_iand K.1 dX2_winnersFirst_64 ?_
  refine V_aload_n 0 K.1 dX2_winnersFirst_65 rfl rfl ?_
  refine V_get (v := .int (σ.1 901)) K.1 dX2_winnersFirst_66 rfl rfl fw_X2_58 rfl rfl ?_
  refine V_iload_n 2 K.1 dX2_winnersFirst_69 rfl rfl ?_
  refine V_callS (d' := d - 1) (As := [.int (s0 ||| s1)]) K.1 dX2_winnersFirst_70 cw_X2_47 rfl (by omega) rfl (by simp [Value.category]) (m_J6_bitCount_0f7a4 K.1.wf (by omega)) (go_I ?_)
  refine V_isub K.1 dX2_winnersFirst_73 ?_
  exact V_sub [] rfl k1
set_option maxRecDepth 20000 in
theorem R_X2_winnersFirst_77 {ω : WT} {κ : KT} {l : Launch} {d : Nat} {post : Option Value → St → Prop} {σ : St} {s0 s1 : Int32}  (K : Cm ω κ l yX2_winnersFirst cX2_winnersFirst 4 d (some .int) post)
    (k1 : post (some (.int (s0 ||| s1))) σ) :
    V ω κ 77 [] [.int s1, .int s0] σ := by
  refine V_ior K.1 dX2_winnersFirst_77 ?_
  exact V_iret K dX2_winnersFirst_78 k1
set_option maxRecDepth 20000 in
theorem C_X2_winnersFirst_29 {ω : WT} {κ : KT} {l : Launch} {d : Nat} {post : Option Value → St → Prop} {σ : St} {x1 x2 s0 s1 : Int32}  {post' : Option Value → St → Prop} (K : Cm ω κ l yX2_winnersFirst cX2_winnersFirst 4 d (some .int) post) (hdp : 1 ≤ d) (hM : Sp ω l yX2_firstOf cX2_firstOf 5 (some .int) (d - 1) [.int s0, .int s1] σ post')
    (kk : ∀ (v : Option Value) (σ' : St), post' v σ' → V ω κ 32 [(0, .ref (ω.2.2.1 14)), (1, .int x1), (2, .int x2)] (v.toList ++ []) σ') : V ω κ 29 [(0, .ref (ω.2.2.1 14)), (1, .int x1), (2, .int x2)] [.int s1, .int s0] σ := by
  exact V_callS (d' := d - 1) (As := [.int s0, .int s1]) (rest := []) K.1 dX2_winnersFirst_29 cw_X2_80 rfl (by omega) rfl (by simp [Value.category]) hM (fun v σ' h => kk v σ' h)
set_option maxRecDepth 20000 in
theorem C_X2_winnersFirst_48 {ω : WT} {κ : KT} {l : Launch} {d : Nat} {post : Option Value → St → Prop} {σ : St} {x1 s0 s1 s2 : Int32}  {post' : Option Value → St → Prop} (K : Cm ω κ l yX2_winnersFirst cX2_winnersFirst 4 d (some .int) post) (hdp : 1 ≤ d) (hM : Sp ω l yX2_firstOf cX2_firstOf 5 (some .int) (d - 1) [.int s1, .int s2] σ post')
    (kk : ∀ (v : Option Value) (σ' : St), post' v σ' → V ω κ 51 [(0, .ref (ω.2.2.1 14)), (1, .int x1)] (v.toList ++ [.int s0]) σ') : V ω κ 48 [(0, .ref (ω.2.2.1 14)), (1, .int x1)] [.int s2, .int s1, .int s0] σ := by
  exact V_callS (d' := d - 1) (As := [.int s1, .int s2]) (rest := [.int s0]) K.1 dX2_winnersFirst_48 cw_X2_80 rfl (by omega) rfl (by simp [Value.category]) hM (fun v σ' h => kk v σ' h)
set_option maxRecDepth 20000 in
theorem C_X2_winnersFirst_74 {ω : WT} {κ : KT} {l : Launch} {d : Nat} {post : Option Value → St → Prop} {σ : St} {s0 s1 s2 : Int32}  {post' : Option Value → St → Prop} (K : Cm ω κ l yX2_winnersFirst cX2_winnersFirst 4 d (some .int) post) (hdp : 1 ≤ d) (hM : Sp ω l yX2_firstOf cX2_firstOf 5 (some .int) (d - 1) [.int s1, .int s2] σ post')
    (kk : ∀ (v : Option Value) (σ' : St), post' v σ' → V ω κ 77 [] (v.toList ++ [.int s0]) σ') : V ω κ 74 [] [.int s2, .int s1, .int s0] σ := by
  exact V_callS (d' := d - 1) (As := [.int s1, .int s2]) (rest := [.int s0]) K.1 dX2_winnersFirst_74 cw_X2_80 rfl (by omega) rfl (by simp [Value.category]) hM (fun v σ' h => kk v σ' h)
set_option maxRecDepth 20000 in
theorem R_X2_seated_0 {ω : WT} {κ : KT} {l : Launch} {d : Nat} {post : Option Value → St → Prop} {σ : St} {x1 x2 : Int32}  (K : Cm ω κ l yX2_seated cX2_seated 3 d (some .int) post) (hdp : 1 ≤ d)
    (k1 : ¬ ((σ.1 901) = 0) → ((σ.1 898) = 0) → V ω κ 60 [] [.int (σ.1 901), .int (((1 : Int32) <<< ((σ.1 640) &&& 31)) - (1 : Int32)), .int (x2 * (256 : Int32))] σ)
    (k2 : ¬ ((σ.1 901) = 0) → ¬ ((σ.1 898) = 0) → ((σ.1 898) = 1) → V ω κ 72 [] [.int x1, .ref (ω.2.2.1 14), .int (x2 * (256 : Int32))] σ)
    (k3 : ¬ ((σ.1 901) = 0) → ¬ ((σ.1 898) = 0) → ¬ ((σ.1 898) = 1) → V ω κ 79 [] [.int x2, .ref (ω.2.2.1 14)] σ)
    (k4 : ((σ.1 901) = 0) → post (some (.int (x2 * (256 : Int32)))) σ) :
    V ω κ 0 [(0, .ref (ω.2.2.1 14)), (1, .int x1), (2, .int x2)] [] σ := by
  refine V_aload_n 0 K.1 dX2_seated_0 rfl rfl ?_
  refine V_get (v := .int (σ.1 901)) K.1 dX2_seated_1 rfl rfl fw_X2_58 rfl rfl ?_
  refine V_if_ne (tgt := 13) K.1 dX2_seated_4 (by decide) (fun c4 => ?_) (fun c4 => ?_)
  · refine V_aload_n 0 K.1 dX2_seated_13 rfl rfl ?_
    refine V_get (v := .int (σ.1 898)) K.1 dX2_seated_14 rfl rfl fw_X2_19 rfl rfl ?_
    by_cases c17_0 : (σ.1 898) = 0
    · refine V_lookup (off := 27) (tgt := 44) K.1 dX2_seated_17 (by decide) (by rw [c17_0]; decide) (by decide) ?_
      refine V_iload_n 2 K.1 dX2_seated_44 rfl rfl ?_
      refine V_sipush (v := 256) K.1 dX2_seated_45 (by decide) ?_
      refine V_imul K.1 dX2_seated_48 ?_
      refine V_aload_n 0 K.1 dX2_seated_49 rfl rfl ?_
      refine V_get (v := .ref (ω.2.2.1 10)) K.1 dX2_seated_50 rfl rfl fw_X2_9 rfl rfl ?_
      refine V_callV (d' := d - 1) (As := []) K.1 dX2_seated_53 cw_X2_39 rfl rfl rfl (by omega) rfl (by simp [Value.category]) (m_X7_everybody K.1.wf (by omega)) (go_I ?_)
      refine V_aload_n 0 K.1 dX2_seated_56 rfl rfl ?_
      refine V_get (v := .int (σ.1 901)) K.1 dX2_seated_57 rfl rfl fw_X2_58 rfl rfl ?_
      exact V_sub [] rfl (k1 c4 c17_0)
    by_cases c17_1 : (σ.1 898) = 1
    · refine V_lookup (off := 48) (tgt := 65) K.1 dX2_seated_17 (by decide) (by rw [c17_1]; decide) (by decide) ?_
      refine V_iload_n 2 K.1 dX2_seated_65 rfl rfl ?_
      refine V_sipush (v := 256) K.1 dX2_seated_66 (by decide) ?_
      refine V_imul K.1 dX2_seated_69 ?_
      refine V_aload_n 0 K.1 dX2_seated_70 rfl rfl ?_
      refine V_iload_n 1 K.1 dX2_seated_71 rfl rfl ?_
      exact V_sub [] rfl (k2 c4 c17_0 c17_1)
    refine V_lookup (off := 60) (tgt := 77) K.1 dX2_seated_17 (by decide) (by show Op.lookupswitch.offset [(0, 27), (1, 48)] 60 _ = _; rw [lv_osw c17_0 (by decide), lv_osw c17_1 (by decide)]; rfl) (by decide) ?_
    refine V_aload_n 0 K.1 dX2_seated_77 rfl rfl ?_
    refine V_iload_n 2 K.1 dX2_seated_78 rfl rfl ?_
    exact V_sub [] rfl (k3 c4 c17_0 c17_1)
  · refine V_iload_n 2 K.1 dX2_seated_7 rfl rfl ?_
    refine V_sipush (v := 256) K.1 dX2_seated_8 (by decide) ?_
    refine V_imul K.1 dX2_seated_11 ?_
    exact V_iret K dX2_seated_12 (k4 c4)
set_option maxRecDepth 20000 in
theorem R_X2_seated_63 {ω : WT} {κ : KT} {l : Launch} {d : Nat} {post : Option Value → St → Prop} {σ : St} {s0 s1 : Int32}  (K : Cm ω κ l yX2_seated cX2_seated 3 d (some .int) post)
    (k1 : post (some (.int (s0 + s1))) σ) :
    V ω κ 63 [] [.int s1, .int s0] σ := by
  refine V_iadd K.1 dX2_seated_63 ?_
  exact V_iret K dX2_seated_64 k1
set_option maxRecDepth 20000 in
theorem R_X2_seated_75 {ω : WT} {κ : KT} {l : Launch} {d : Nat} {post : Option Value → St → Prop} {σ : St} {s0 s1 : Int32}  (K : Cm ω κ l yX2_seated cX2_seated 3 d (some .int) post)
    (k1 : post (some (.int (s0 + s1))) σ) :
    V ω κ 75 [] [.int s1, .int s0] σ := by
  refine V_iadd K.1 dX2_seated_75 ?_
  exact V_iret K dX2_seated_76 k1
set_option maxRecDepth 20000 in
theorem R_X2_seated_82 {ω : WT} {κ : KT} {l : Launch} {d : Nat} {post : Option Value → St → Prop} {σ : St} {s0 : Int32}  (K : Cm ω κ l yX2_seated cX2_seated 3 d (some .int) post)
    (k1 : post (some (.int s0)) σ) :
    V ω κ 82 [] [.int s0] σ := by
  exact V_iret K dX2_seated_82 k1
set_option maxRecDepth 20000 in
theorem C_X2_seated_60 {ω : WT} {κ : KT} {l : Launch} {d : Nat} {post : Option Value → St → Prop} {σ : St} {s0 s1 s2 : Int32}  {post' : Option Value → St → Prop} (K : Cm ω κ l yX2_seated cX2_seated 3 d (some .int) post) (hdp : 1 ≤ d) (hM : Sp ω l yX2_firstOf cX2_firstOf 5 (some .int) (d - 1) [.int s1, .int s2] σ post')
    (kk : ∀ (v : Option Value) (σ' : St), post' v σ' → V ω κ 63 [] (v.toList ++ [.int s0]) σ') : V ω κ 60 [] [.int s2, .int s1, .int s0] σ := by
  exact V_callS (d' := d - 1) (As := [.int s1, .int s2]) (rest := [.int s0]) K.1 dX2_seated_60 cw_X2_80 rfl (by omega) rfl (by simp [Value.category]) hM (fun v σ' h => kk v σ' h)
set_option maxRecDepth 20000 in
theorem C_X2_seated_72 {ω : WT} {κ : KT} {l : Launch} {d : Nat} {post : Option Value → St → Prop} {σ : St} {s0 s2 : Int32}  {post' : Option Value → St → Prop} (K : Cm ω κ l yX2_seated cX2_seated 3 d (some .int) post) (hdp : 1 ≤ d) (hM : Sp ω l yX2_winnersFirst cX2_winnersFirst 4 (some .int) (d - 1) [.ref (ω.2.2.1 14), .int s2] σ post')
    (kk : ∀ (v : Option Value) (σ' : St), post' v σ' → V ω κ 75 [] (v.toList ++ [.int s0]) σ') : V ω κ 72 [] [.int s2, .ref (ω.2.2.1 14), .int s0] σ := by
  exact V_callV (d' := d - 1) (As := [.int s2]) (rest := [.int s0]) K.1 dX2_seated_72 cw_X2_83 rfl rfl rfl (by omega) rfl (by simp [Value.category]) hM (fun v σ' h => kk v σ' h)
set_option maxRecDepth 20000 in
theorem C_X2_seated_79 {ω : WT} {κ : KT} {l : Launch} {d : Nat} {post : Option Value → St → Prop} {σ : St} {s1 : Int32}  {post' : Option Value → St → Prop} (K : Cm ω κ l yX2_seated cX2_seated 3 d (some .int) post) (hdp : 1 ≤ d) (hM : Sp ω l yX2_inTurn cX2_inTurn 4 (some .int) (d - 1) [.ref (ω.2.2.1 14), .int s1] σ post')
    (kk : ∀ (v : Option Value) (σ' : St), post' v σ' → V ω κ 82 [] (v.toList ++ []) σ') : V ω κ 79 [] [.int s1, .ref (ω.2.2.1 14)] σ := by
  exact V_callV (d' := d - 1) (As := [.int s1]) (rest := []) K.1 dX2_seated_79 cw_X2_86 rfl rfl rfl (by omega) rfl (by simp [Value.category]) hM (fun v σ' h => kk v σ' h)
set_option maxRecDepth 20000 in
theorem R_X2_step_0 {ω : WT} {κ : KT} {l : Launch} {d : Nat} {post : Option Value → St → Prop} {σ : St} {x1 x2 x3 : Int32}  (K : Cm ω κ l yX2_step cX2_step 7 d (some .int) post) (hdp : 1 ≤ d)
    (k1 : ¬ ((x1 &&& (255 : Int32)) = 0) → V ω κ 49 [(0, .ref (ω.2.2.1 14)), (1, .int x1), (4, .int (x1 &&& (255 : Int32)))] [.int x3, .int x2, .int (x1 &&& (255 : Int32)), .ref (ω.2.2.1 14), .ref (ω.2.2.1 14)] σ)
    (k2 : ((x1 &&& (255 : Int32)) = 0) → post (some (.int (x1 ||| (((1 : Int32) <<< ((σ.1 640) &&& 31)) - (1 : Int32))))) (pS (pS (pS σ 899 (0 : Int32)) 900 (-6 : Int32)) 901 (σ.1 640))) :
    V ω κ 0 [(0, .ref (ω.2.2.1 14)), (1, .int x1), (2, .int x2), (3, .int x3)] [] σ := by
  refine V_iload_n 1 K.1 dX2_step_0 rfl rfl ?_
  refine V_callS (d' := d - 1) (As := [.int x1]) K.1 dX2_step_1 cw_X2_43 rfl (by omega) rfl (by simp [Value.category]) (m_X2_sittingAt K.1.wf (by omega)) (go_I ?_)
  refine V_istore (L' := [(0, .ref (ω.2.2.1 14)), (1, .int x1), (2, .int x2), (3, .int x3), (4, .int (x1 &&& (255 : Int32)))]) K.1 dX2_step_4 (by decide) rfl ?_
  refine V_iload 4 K.1 dX2_step_6 rfl ?_
  refine V_if_ne (tgt := 43) K.1 dX2_step_8 (by decide) (fun c8 => ?_) (fun c8 => ?_)
  · refine V_aload_n 0 K.1 dX2_step_43 rfl rfl ?_
    refine V_aload_n 0 K.1 dX2_step_44 rfl rfl ?_
    refine V_iload 4 K.1 dX2_step_45 rfl ?_
    refine V_iload_n 2 K.1 dX2_step_47 rfl rfl ?_
    refine V_iload_n 3 K.1 dX2_step_48 rfl rfl ?_
    exact V_sub [0, 1, 4] rfl (k1 c8)
  · refine V_aload_n 0 K.1 dX2_step_11 rfl rfl ?_
    refine V_iconst (v := 0) K.1 dX2_step_12 (by decide) ?_
    refine V_putI (key := 899) K.1 dX2_step_13 rfl rfl fw_X2_52 pw_X2_3 rfl rfl rfl rfl ?_
    refine V_aload_n 0 K.1 dX2_step_16 rfl rfl ?_
    refine V_bipush (v := -6) K.1 dX2_step_17 (by decide) ?_
    refine V_putI (key := 900) K.1 dX2_step_19 rfl rfl fw_X2_55 pw_X2_4 rfl rfl rfl rfl ?_
    refine V_aload_n 0 K.1 dX2_step_22 rfl rfl ?_
    refine V_aload_n 0 K.1 dX2_step_23 rfl rfl ?_
    refine V_get (v := .ref (ω.2.2.1 10)) K.1 dX2_step_24 rfl rfl fw_X2_9 rfl rfl ?_
    refine V_get (v := .int (σ.1 640)) K.1 dX2_step_27 rfl rfl fw_X2_30 rfl rfl ?_
    refine V_putI (key := 901) K.1 dX2_step_30 rfl rfl fw_X2_58 pw_X2_5 rfl rfl rfl rfl ?_
    refine V_iload_n 1 K.1 dX2_step_33 rfl rfl ?_
    refine V_aload_n 0 K.1 dX2_step_34 rfl rfl ?_
    refine V_get (v := .ref (ω.2.2.1 10)) K.1 dX2_step_35 rfl rfl fw_X2_9 rfl rfl ?_
    refine V_callV (d' := d - 1) (As := []) K.1 dX2_step_38 cw_X2_39 rfl rfl rfl (by omega) rfl (by simp [Value.category]) (m_X7_everybody K.1.wf (by omega)) (go_I ?_)
    refine V_ior K.1 dX2_step_41 ?_
    exact V_iret K dX2_step_42 (k2 c8)
set_option maxRecDepth 20000 in
theorem R_X2_step_52 {ω : WT} {κ : KT} {l : Launch} {d : Nat} {post : Option Value → St → Prop} {σ : St} {x1 x4 s1 : Int32}  (K : Cm ω κ l yX2_step cX2_step 7 d (some .int) post) (hdp : 1 ≤ d)
    (k2 : V ω κ 102 [(0, .ref (ω.2.2.1 14)), (1, .int x1), (4, .int x4), (5, .int (F_bc s1)), (6, .int ((F_bc x4) - (F_bc s1)))] [] (pS (pS σ 899 s1) 900 (if ((F_bc s1) = ((F_bc x4) - (F_bc s1))) then (-5 : Int32) else (if ((F_bc s1) ≤ ((F_bc x4) - (F_bc s1))) then (0 : Int32) else (1 : Int32))))) :
    V ω κ 52 [(0, .ref (ω.2.2.1 14)), (1, .int x1), (4, .int x4)] [.int s1, .ref (ω.2.2.1 14)] σ := by
  refine V_putI (key := 899) K.1 dX2_step_52 rfl rfl fw_X2_52 pw_X2_3 rfl rfl rfl rfl ?_
  refine V_aload_n 0 K.1 dX2_step_55 rfl rfl ?_
  refine V_get (v := .int s1) K.1 dX2_step_56 rfl rfl fw_X2_52 rfl rfl ?_
  refine V_callS (d' := d - 1) (As := [.int s1]) K.1 dX2_step_59 cw_X2_47 rfl (by omega) rfl (by simp [Value.category]) (m_J6_bitCount_0f7a4 K.1.wf (by omega)) (go_I ?_)
  refine V_istore (L' := [(0, .ref (ω.2.2.1 14)), (1, .int x1), (4, .int x4), (5, .int (F_bc s1))]) K.1 dX2_step_62 (by decide) rfl ?_
  refine V_iload 2 K.1 dX2_step_64 rfl ?_
  refine V_callS (d' := d - 1) (As := [.int x4]) K.1 dX2_step_66 cw_X2_47 rfl (by omega) rfl (by simp [Value.category]) (m_J6_bitCount_0f7a4 K.1.wf (by omega)) (go_I ?_)
  refine V_iload 3 K.1 dX2_step_69 rfl ?_
  refine V_isub K.1 dX2_step_71 ?_
  refine V_istore (L' := [(0, .ref (ω.2.2.1 14)), (1, .int x1), (4, .int x4), (5, .int (F_bc s1)), (6, .int ((F_bc x4) - (F_bc s1)))]) K.1 dX2_step_72 (by decide) rfl ?_
  refine V_aload_n 0 K.1 dX2_step_74 rfl rfl ?_
  refine V_iload 3 K.1 dX2_step_75 rfl ?_
  refine V_iload 4 K.1 dX2_step_77 rfl ?_
  refine V_join (J := 99) (S := [.ref (ω.2.2.1 14)]) (v := .int (if ((F_bc s1) = ((F_bc x4) - (F_bc s1))) then (-5 : Int32) else (if ((F_bc s1) ≤ ((F_bc x4) - (F_bc s1))) then (0 : Int32) else (1 : Int32)))) (fun hJ1 => ?_) ?_
  · refine V_icmp_ne (tgt := 87) K.1 dX2_step_79 (by decide) (fun c79 => ?_) (fun c79 => ?_)
    · refine V_iload 3 K.1 dX2_step_87 rfl ?_
      refine V_iload 4 K.1 dX2_step_89 rfl ?_
      refine V_icmp_le (tgt := 98) K.1 dX2_step_91 (by decide) (fun c91 => ?_) (fun c91 => ?_)
      · refine V_iconst (v := 0) K.1 dX2_step_98 (by decide) ?_
        exact V_top ((if_neg c79).trans (if_pos c91)) hJ1
      · refine V_iconst (v := 1) K.1 dX2_step_94 (by decide) ?_
        refine V_goto (tgt := 99) K.1 dX2_step_95 (by decide) ?_
        exact V_top ((if_neg c79).trans (if_neg c91)) hJ1
    · refine V_bipush (v := -5) K.1 dX2_step_82 (by decide) ?_
      refine V_goto (tgt := 99) K.1 dX2_step_84 (by decide) ?_
      exact V_top (if_pos c79) hJ1
  refine V_putI (key := 900) K.1 dX2_step_99 rfl rfl fw_X2_55 pw_X2_4 rfl rfl rfl rfl ?_
  exact k2
set_option maxRecDepth 20000 in
theorem R_X2_step_102 {ω : WT} {κ : KT} {l : Launch} {d : Nat} {post : Option Value → St → Prop} {σ : St} {x1 x4 x5 x6 : Int32}  (K : Cm ω κ l yX2_step cX2_step 7 d (some .int) post) (hdp : 1 ≤ d)
    (k2 : V ω κ 153 [] [.int (x1 / (256 : Int32)), .int x4, .ref (ω.2.2.1 14)] (pS σ 901 (if (x5 = x6) then (0 : Int32) else (if ((σ.1 640) < (if ((σ.1 897) = 0) then ((if (x5 < x6) then x6 else x5) - (if (x6 < x5) then x6 else x5)) else (if ((σ.1 897) = 1) then (if (x5 < x6) then x6 else x5) else (if ((σ.1 897) = 2) then (if (x6 < x5) then x6 else x5) else ((2 : Int32) * ((if (x5 < x6) then x6 else x5) - (if (x6 < x5) then x6 else x5))))))) then (σ.1 640) else (if ((σ.1 897) = 0) then ((if (x5 < x6) then x6 else x5) - (if (x6 < x5) then x6 else x5)) else (if ((σ.1 897) = 1) then (if (x5 < x6) then x6 else x5) else (if ((σ.1 897) = 2) then (if (x6 < x5) then x6 else x5) else ((2 : Int32) * ((if (x5 < x6) then x6 else x5) - (if (x6 < x5) then x6 else x5)))))))))) :
    V ω κ 102 [(0, .ref (ω.2.2.1 14)), (1, .int x1), (4, .int x4), (5, .int x5), (6, .int x6)] [] σ := by
  refine V_aload_n 0 K.1 dX2_step_102 rfl rfl ?_
  refine V_iload 3 K.1 dX2_step_103 rfl ?_
  refine V_iload 4 K.1 dX2_step_105 rfl ?_
  refine V_join (J := 142) (S := [.ref (ω.2.2.1 14)]) (v := .int (if (x5 = x6) then (0 : Int32) else (if ((σ.1 640) < (if ((σ.1 897) = 0) then ((if (x5 < x6) then x6 else x5) - (if (x6 < x5) then x6 else x5)) else (if ((σ.1 897) = 1) then (if (x5 < x6) then x6 else x5) else (if ((σ.1 897) = 2) then (if (x6 < x5) then x6 else x5) else ((2 : Int32) * ((if (x5 < x6) then x6 else x5) - (if (x6 < x5) then x6 else x5))))))) then (σ.1 640) else (if ((σ.1 897) = 0) then ((if (x5 < x6) then x6 else x5) - (if (x6 < x5) then x6 else x5)) else (if ((σ.1 897) = 1) then (if (x5 < x6) then x6 else x5) else (if ((σ.1 897) = 2) then (if (x6 < x5) then x6 else x5) else ((2 : Int32) * ((if (x5 < x6) then x6 else x5) - (if (x6 < x5) then x6 else x5))))))))) (fun hJ1 => ?_) ?_
  · refine V_icmp_ne (tgt := 114) K.1 dX2_step_107 (by decide) (fun c107 => ?_) (fun c107 => ?_)
    · refine V_aload_n 0 K.1 dX2_step_114 rfl rfl ?_
      refine V_iload 3 K.1 dX2_step_115 rfl ?_
      refine V_iload 4 K.1 dX2_step_117 rfl ?_
      refine V_callS (d' := d - 1) (As := [.int x5, .int x6]) K.1 dX2_step_119 cw_X2_33 rfl (by omega) rfl (by simp [Value.category]) (m_J9_max_7cf53 K.1.wf (by omega)) (go_I ?_)
      refine V_iload 3 K.1 dX2_step_122 rfl ?_
      refine V_iload 4 K.1 dX2_step_124 rfl ?_
      refine V_callS (d' := d - 1) (As := [.int x5, .int x6]) K.1 dX2_step_126 cw_X2_65 rfl (by omega) rfl (by simp [Value.category]) (m_J9_min_7cf53 K.1.wf (by omega)) (go_I ?_)
      refine V_callV (d' := d - 1) (As := [.int (if (x5 < x6) then x6 else x5), .int (if (x6 < x5) then x6 else x5)]) K.1 dX2_step_129 cw_X2_68 rfl rfl rfl (by omega) rfl (by simp [Value.category]) (m_X2_seatsFor K.1.wf (by omega)) (go_I ?_)
      refine V_aload_n 0 K.1 dX2_step_132 rfl rfl ?_
      refine V_get (v := .ref (ω.2.2.1 10)) K.1 dX2_step_133 rfl rfl fw_X2_9 rfl rfl ?_
      refine V_get (v := .int (σ.1 640)) K.1 dX2_step_136 rfl rfl fw_X2_30 rfl rfl ?_
      refine V_callS (d' := d - 1) (As := [.int (if ((σ.1 897) = 0) then ((if (x5 < x6) then x6 else x5) - (if (x6 < x5) then x6 else x5)) else (if ((σ.1 897) = 1) then (if (x5 < x6) then x6 else x5) else (if ((σ.1 897) = 2) then (if (x6 < x5) then x6 else x5) else ((2 : Int32) * ((if (x5 < x6) then x6 else x5) - (if (x6 < x5) then x6 else x5)))))), .int (σ.1 640)]) K.1 dX2_step_139 cw_X2_65 rfl (by omega) rfl (by simp [Value.category]) (m_J9_min_7cf53 K.1.wf (by omega)) (go_I ?_)
      exact V_top (if_neg c107) hJ1
    · refine V_iconst (v := 0) K.1 dX2_step_110 (by decide) ?_
      refine V_goto (tgt := 142) K.1 dX2_step_111 (by decide) ?_
      exact V_top (if_pos c107) hJ1
  refine V_putI (key := 901) K.1 dX2_step_142 rfl rfl fw_X2_58 pw_X2_5 rfl rfl rfl rfl ?_
  refine V_aload_n 0 K.1 dX2_step_145 rfl rfl ?_
  refine V_iload 2 K.1 dX2_step_146 rfl ?_
  refine V_iload_n 1 K.1 dX2_step_148 rfl rfl ?_
  refine V_sipush (v := 256) K.1 dX2_step_149 (by decide) ?_
  refine V_idiv K.1 dX2_step_152 (by decide) ?_
  exact V_sub [] rfl k2
set_option maxRecDepth 20000 in
theorem R_X2_step_156 {ω : WT} {κ : KT} {l : Launch} {d : Nat} {post : Option Value → St → Prop} {σ : St} {s0 : Int32}  (K : Cm ω κ l yX2_step cX2_step 7 d (some .int) post)
    (k1 : post (some (.int s0)) σ) :
    V ω κ 156 [] [.int s0] σ := by
  exact V_iret K dX2_step_156 k1
set_option maxRecDepth 20000 in
theorem C_X2_step_49 {ω : WT} {κ : KT} {l : Launch} {d : Nat} {post : Option Value → St → Prop} {σ : St} {x1 x4 s2 s3 s4 : Int32}  {post' : Option Value → St → Prop} (K : Cm ω κ l yX2_step cX2_step 7 d (some .int) post) (hdp : 1 ≤ d) (hM : Sp ω l yX2_sayings cX2_sayings 10 (some .int) (d - 1) [.ref (ω.2.2.1 14), .int s2, .int s3, .int s4] σ post')
    (kk : ∀ (v : Option Value) (σ' : St), post' v σ' → V ω κ 52 [(0, .ref (ω.2.2.1 14)), (1, .int x1), (4, .int x4)] (v.toList ++ [.ref (ω.2.2.1 14)]) σ') : V ω κ 49 [(0, .ref (ω.2.2.1 14)), (1, .int x1), (4, .int x4)] [.int s4, .int s3, .int s2, .ref (ω.2.2.1 14), .ref (ω.2.2.1 14)] σ := by
  exact V_callV (d' := d - 1) (As := [.int s2, .int s3, .int s4]) (rest := [.ref (ω.2.2.1 14)]) K.1 dX2_step_49 cw_X2_61 rfl rfl rfl (by omega) rfl (by simp [Value.category]) hM (fun v σ' h => kk v σ' h)
set_option maxRecDepth 20000 in
theorem C_X2_step_153 {ω : WT} {κ : KT} {l : Launch} {d : Nat} {post : Option Value → St → Prop} {σ : St} {s1 s2 : Int32}  {post' : Option Value → St → Prop} (K : Cm ω κ l yX2_step cX2_step 7 d (some .int) post) (hdp : 1 ≤ d) (hM : Sp ω l yX2_seated cX2_seated 3 (some .int) (d - 1) [.ref (ω.2.2.1 14), .int s1, .int s2] σ post')
    (kk : ∀ (v : Option Value) (σ' : St), post' v σ' → V ω κ 156 [] (v.toList ++ []) σ') : V ω κ 153 [] [.int s2, .int s1, .ref (ω.2.2.1 14)] σ := by
  exact V_callV (d' := d - 1) (As := [.int s1, .int s2]) (rest := []) K.1 dX2_step_153 cw_X2_71 rfl rfl rfl (by omega) rfl (by simp [Value.category]) hM (fun v σ' h => kk v σ' h)
set_option maxRecDepth 20000 in
theorem R_X9_seatAnew_0 {ω : WT} {κ : KT} {l : Launch} {d : Nat} {post : Option Value → St → Prop} {σ : St}  (K : Cm ω κ l yX9_seatAnew cX9_seatAnew 1 d none post)
    (k1 : ¬ ((σ.1 2266) = 0) → ¬ ((σ.1 2262) = 0) → ¬ ((σ.1 2262) = (1 : Int32)) → V ω κ 51 [] [.ref (ω.2.2.1 35)] σ)
    (k2 : ¬ ((σ.1 2266) = 0) → ¬ ((σ.1 2262) = 0) → ((σ.1 2262) = (1 : Int32)) → V ω κ 44 [] [.ref (ω.2.2.1 35)] σ)
    (k3 : ¬ ((σ.1 2266) = 0) → ((σ.1 2262) = 0) → post none (pS σ 2258 (((1 : Int32) <<< ((σ.1 2266) &&& 31)) - (1 : Int32))))
    (k4 : ((σ.1 2266) = 0) → post none (pS σ 2259 (1 : Int32))) :
    V ω κ 0 [(0, .ref (ω.2.2.1 35))] [] σ := by
  refine V_aload_n 0 K.1 dX9_seatAnew_0 rfl rfl ?_
  refine V_get (v := .int (σ.1 2266)) K.1 dX9_seatAnew_1 rfl rfl fw_X9_183 rfl rfl ?_
  refine V_if_ne (tgt := 13) K.1 dX9_seatAnew_4 (by decide) (fun c4 => ?_) (fun c4 => ?_)
  · refine V_aload_n 0 K.1 dX9_seatAnew_13 rfl rfl ?_
    refine V_get (v := .int (σ.1 2262)) K.1 dX9_seatAnew_14 rfl rfl fw_X9_167 rfl rfl ?_
    refine V_if_ne (tgt := 35) K.1 dX9_seatAnew_17 (by decide) (fun c17 => ?_) (fun c17 => ?_)
    · refine V_aload_n 0 K.1 dX9_seatAnew_35 rfl rfl ?_
      refine V_get (v := .int (σ.1 2262)) K.1 dX9_seatAnew_36 rfl rfl fw_X9_167 rfl rfl ?_
      refine V_iconst (v := 1) K.1 dX9_seatAnew_39 (by decide) ?_
      refine V_icmp_ne (tgt := 50) K.1 dX9_seatAnew_40 (by decide) (fun c40 => ?_) (fun c40 => ?_)
      · refine V_aload_n 0 K.1 dX9_seatAnew_50 rfl rfl ?_
        exact V_sub [] rfl (k1 c4 c17 c40)
      · refine V_aload_n 0 K.1 dX9_seatAnew_43 rfl rfl ?_
        exact V_sub [] rfl (k2 c4 c17 c40)
    · refine V_aload_n 0 K.1 dX9_seatAnew_20 rfl rfl ?_
      refine V_iconst (v := 1) K.1 dX9_seatAnew_21 (by decide) ?_
      refine V_aload_n 0 K.1 dX9_seatAnew_22 rfl rfl ?_
      refine V_get (v := .int (σ.1 2266)) K.1 dX9_seatAnew_23 rfl rfl fw_X9_183 rfl rfl ?_
      refine V_ishl K.1 dX9_seatAnew_26 ?_
      refine V_iconst (v := 1) K.1 dX9_seatAnew_27 (by decide) ?_
      refine V_isub K.1 dX9_seatAnew_28 ?_
      refine V_putI (key := 2258) K.1 dX9_seatAnew_29 rfl rfl fw_X9_154 pw_X9_18 rfl rfl rfl rfl ?_
      refine V_goto (tgt := 54) K.1 dX9_seatAnew_32 (by decide) ?_
      exact V_vret K dX9_seatAnew_54 (k3 c4 c17)
  · refine V_aload_n 0 K.1 dX9_seatAnew_7 rfl rfl ?_
    refine V_iconst (v := 1) K.1 dX9_seatAnew_8 (by decide) ?_
    refine V_putI (key := 2259) K.1 dX9_seatAnew_9 rfl rfl fw_X9_157 pw_X9_19 rfl (narZ (Or.inr rfl)) (fitZ (Or.inr rfl)) rfl ?_
    exact V_vret K dX9_seatAnew_12 (k4 c4)
set_option maxRecDepth 20000 in
theorem R_X9_seatAnew_47 {ω : WT} {κ : KT} {l : Launch} {d : Nat} {post : Option Value → St → Prop} {σ : St}  (K : Cm ω κ l yX9_seatAnew cX9_seatAnew 1 d none post)
    (k1 : post none σ) :
    V ω κ 47 [] [] σ := by
  refine V_goto (tgt := 54) K.1 dX9_seatAnew_47 (by decide) ?_
  exact V_vret K dX9_seatAnew_54 k1
set_option maxRecDepth 20000 in
theorem R_X9_seatAnew_54 {ω : WT} {κ : KT} {l : Launch} {d : Nat} {post : Option Value → St → Prop} {σ : St}  (K : Cm ω κ l yX9_seatAnew cX9_seatAnew 1 d none post)
    (k1 : post none σ) :
    V ω κ 54 [] [] σ := by
  exact V_vret K dX9_seatAnew_54 k1
set_option maxRecDepth 20000 in
theorem C_X9_seatAnew_44 {ω : WT} {κ : KT} {l : Launch} {d : Nat} {post : Option Value → St → Prop} {σ : St}  {post' : Option Value → St → Prop} (K : Cm ω κ l yX9_seatAnew cX9_seatAnew 1 d none post) (hdp : 1 ≤ d) (hM : Sp ω l yX9_seatWinners cX9_seatWinners 7 none (d - 1) [.ref (ω.2.2.1 35)] σ post')
    (kk : ∀ (v : Option Value) (σ' : St), post' v σ' → V ω κ 47 [] (v.toList ++ []) σ') : V ω κ 44 [] [.ref (ω.2.2.1 35)] σ := by
  exact V_callV (d' := d - 1) (As := []) (rest := []) K.1 dX9_seatAnew_44 cw_X9_186 rfl rfl rfl (by omega) rfl (by simp [Value.category]) hM (fun v σ' h => kk v σ' h)
set_option maxRecDepth 20000 in
theorem C_X9_seatAnew_51 {ω : WT} {κ : KT} {l : Launch} {d : Nat} {post : Option Value → St → Prop} {σ : St}  {post' : Option Value → St → Prop} (K : Cm ω κ l yX9_seatAnew cX9_seatAnew 1 d none post) (hdp : 1 ≤ d) (hM : Sp ω l yX9_seatRound cX9_seatRound 3 none (d - 1) [.ref (ω.2.2.1 35)] σ post')
    (kk : ∀ (v : Option Value) (σ' : St), post' v σ' → V ω κ 54 [] (v.toList ++ []) σ') : V ω κ 51 [] [.ref (ω.2.2.1 35)] σ := by
  exact V_callV (d' := d - 1) (As := []) (rest := []) K.1 dX9_seatAnew_51 cw_X9_189 rfl rfl rfl (by omega) rfl (by simp [Value.category]) hM (fun v σ' h => kk v σ' h)
set_option maxRecDepth 20000 in
theorem R_X9_goOn_0 {ω : WT} {κ : KT} {l : Launch} {d : Nat} {post : Option Value → St → Prop} {σ : St} {x1 x2 x3 : Int32}  (K : Cm ω κ l yX9_goOn cX9_goOn 4 d none post) (hdp : 2 ≤ d)
    (k1 : ((σ.1 2259) = 0) → V ω κ 18 [(0, .ref (ω.2.2.1 35))] [.int x3, .int x2, .int x1, .ref (ω.2.2.1 35)] σ)
    (k2 : ¬ ((σ.1 2259) = 0) → post none (pS (pS (pS (pS (pS (pS σ 2263 (0 : Int32)) 2264 (0 : Int32)) 2265 (-6 : Int32)) 2266 (σ.1 2245)) 2258 (((1 : Int32) <<< ((σ.1 2245) &&& 31)) - (1 : Int32))) 2259 (0 : Int32))) :
    V ω κ 0 [(0, .ref (ω.2.2.1 35)), (1, .int x1), (2, .int x2), (3, .int x3)] [] σ := by
  refine V_aload_n 0 K.1 dX9_goOn_0 rfl rfl ?_
  refine V_get (v := .int (σ.1 2259)) K.1 dX9_goOn_1 rfl rfl fw_X9_157 rfl rfl ?_
  refine V_if_eq (tgt := 14) K.1 dX9_goOn_4 (by decide) (fun c4 => ?_) (fun c4 => ?_)
  · refine V_aload_n 0 K.1 dX9_goOn_14 rfl rfl ?_
    refine V_iload_n 1 K.1 dX9_goOn_15 rfl rfl ?_
    refine V_iload_n 2 K.1 dX9_goOn_16 rfl rfl ?_
    refine V_iload_n 3 K.1 dX9_goOn_17 rfl rfl ?_
    exact V_sub [0] rfl (k1 c4)
  · refine V_aload_n 0 K.1 dX9_goOn_7 rfl rfl ?_
    refine V_callV (d' := d - 1) (As := []) K.1 dX9_goOn_8 cw_X9_192 rfl rfl rfl (by omega) rfl (by simp [Value.category]) (m_X9_passBy K.1.wf (by omega)) (go_V ?_)
    refine V_goto (tgt := 25) K.1 dX9_goOn_11 (by decide) ?_
    exact V_vret K dX9_goOn_25 (k2 c4)
set_option maxRecDepth 20000 in
theorem R_X9_goOn_21 {ω : WT} {κ : KT} {l : Launch} {d : Nat} {post : Option Value → St → Prop} {σ : St}  (K : Cm ω κ l yX9_goOn cX9_goOn 4 d none post)
    (k1 : V ω κ 22 [] [.ref (ω.2.2.1 35)] σ) :
    V ω κ 21 [(0, .ref (ω.2.2.1 35))] [] σ := by
  refine V_aload_n 0 K.1 dX9_goOn_21 rfl rfl ?_
  exact V_sub [] rfl k1
set_option maxRecDepth 20000 in
theorem R_X9_goOn_25 {ω : WT} {κ : KT} {l : Launch} {d : Nat} {post : Option Value → St → Prop} {σ : St}  (K : Cm ω κ l yX9_goOn cX9_goOn 4 d none post)
    (k1 : post none σ) :
    V ω κ 25 [] [] σ := by
  exact V_vret K dX9_goOn_25 k1
set_option maxRecDepth 20000 in
theorem C_X9_goOn_18 {ω : WT} {κ : KT} {l : Launch} {d : Nat} {post : Option Value → St → Prop} {σ : St} {s1 s2 s3 : Int32}  {post' : Option Value → St → Prop} (K : Cm ω κ l yX9_goOn cX9_goOn 4 d none post) (hdp : 1 ≤ d) (hM : Sp ω l yX9_poll cX9_poll 9 none (d - 1) [.ref (ω.2.2.1 35), .int s1, .int s2, .int s3] σ post')
    (kk : ∀ (v : Option Value) (σ' : St), post' v σ' → V ω κ 21 [(0, .ref (ω.2.2.1 35))] (v.toList ++ []) σ') : V ω κ 18 [(0, .ref (ω.2.2.1 35))] [.int s3, .int s2, .int s1, .ref (ω.2.2.1 35)] σ := by
  exact V_callV (d' := d - 1) (As := [.int s1, .int s2, .int s3]) (rest := []) K.1 dX9_goOn_18 cw_X9_195 rfl rfl rfl (by omega) rfl (by simp [Value.category]) hM (fun v σ' h => kk v σ' h)
set_option maxRecDepth 20000 in
theorem C_X9_goOn_22 {ω : WT} {κ : KT} {l : Launch} {d : Nat} {post : Option Value → St → Prop} {σ : St}  {post' : Option Value → St → Prop} (K : Cm ω κ l yX9_goOn cX9_goOn 4 d none post) (hdp : 1 ≤ d) (hM : Sp ω l yX9_seatAnew cX9_seatAnew 1 none (d - 1) [.ref (ω.2.2.1 35)] σ post')
    (kk : ∀ (v : Option Value) (σ' : St), post' v σ' → V ω κ 25 [] (v.toList ++ []) σ') : V ω κ 22 [] [.ref (ω.2.2.1 35)] σ := by
  exact V_callV (d' := d - 1) (As := []) (rest := []) K.1 dX9_goOn_22 cw_X9_199 rfl rfl rfl (by omega) rfl (by simp [Value.category]) hM (fun v σ' h => kk v σ' h)
