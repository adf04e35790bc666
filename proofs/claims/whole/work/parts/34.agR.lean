set_option maxRecDepth 20000 in
theorem R_X7_takeAgenda_0 {ω : WT} {κ : KT} {l : Launch} {d : Nat} {post : Option Value → St → Prop} {σ : St} {x2 x3 : Int32} {j : Nat} (hj : j < 4) (K : Cm ω κ l yX7_takeAgenda cX7_takeAgenda 7 d (some .int) post)
    (k1 : (x3 < (1 : Int32)) → post (some (.int (-2 : Int32))) σ)
    (k2 : ¬ (x3 < (1 : Int32)) → (x3 ≤ (6 : Int32)) → V ω κ 20 [(0, .ref (ω.2.2.1 10)), (1, .ref (ω.2.2.1 (2 + j))), (2, .int x2), (3, .int x3), (4, .int (0 : Int32)), (5, .int (0 : Int32))] [] σ)
    (k3 : ¬ (x3 < (1 : Int32)) → ¬ (x3 ≤ (6 : Int32)) → post (some (.int (-2 : Int32))) σ) :
    V ω κ 0 [(0, .ref (ω.2.2.1 10)), (1, .ref (ω.2.2.1 (2 + j))), (2, .int x2), (3, .int x3)] [] σ := by
  refine V_iload_n 3 K.1 dX7_takeAgenda_0 rfl rfl ?_
  refine V_iconst (v := 1) K.1 dX7_takeAgenda_1 (by decide) ?_
  refine V_icmp_lt (tgt := 11) K.1 dX7_takeAgenda_2 (by decide) (fun c2 => ?_) (fun c2 => ?_)
  · refine V_bipush (v := -2) K.1 dX7_takeAgenda_11 (by decide) ?_
    exact V_iret K dX7_takeAgenda_13 (k1 c2)
  · refine V_iload_n 3 K.1 dX7_takeAgenda_5 rfl rfl ?_
    refine V_bipush (v := 6) K.1 dX7_takeAgenda_6 (by decide) ?_
    refine V_icmp_le (tgt := 14) K.1 dX7_takeAgenda_8 (by decide) (fun c8 => ?_) (fun c8 => ?_)
    · refine V_iconst (v := 0) K.1 dX7_takeAgenda_14 (by decide) ?_
      refine V_istore (L' := [(0, .ref (ω.2.2.1 10)), (1, .ref (ω.2.2.1 (2 + j))), (2, .int x2), (3, .int x3), (4, .int (0 : Int32))]) K.1 dX7_takeAgenda_15 (by decide) rfl ?_
      refine V_iconst (v := 0) K.1 dX7_takeAgenda_17 (by decide) ?_
      refine V_istore (L' := [(0, .ref (ω.2.2.1 10)), (1, .ref (ω.2.2.1 (2 + j))), (2, .int x2), (3, .int x3), (4, .int (0 : Int32)), (5, .int (0 : Int32))]) K.1 dX7_takeAgenda_18 (by decide) rfl ?_
      exact (k2 c2 c8)
    · refine V_bipush (v := -2) K.1 dX7_takeAgenda_11 (by decide) ?_
      exact V_iret K dX7_takeAgenda_13 (k3 c2 c8)
set_option maxRecDepth 20000 in
theorem R_X7_takeAgenda_20 {ω : WT} {κ : KT} {l : Launch} {d : Nat} {post : Option Value → St → Prop} {σ : St} {x2 x3 x4 x5 : Int32} {j : Nat} (hj : j < 4) (K : Cm ω κ l yX7_takeAgenda cX7_takeAgenda 7 d (some .int) post) (hdp : 1 ≤ d)
    (k1 : (x3 ≤ x5) → ((F_bc x4) = x3) → V ω κ 77 [(0, .ref (ω.2.2.1 10)), (1, .ref (ω.2.2.1 (2 + j))), (2, .int x2), (3, .int x3), (5, .int (0 : Int32))] [] σ)
    (k2 : (x3 ≤ x5) → ¬ ((F_bc x4) = x3) → post (some (.int (-2 : Int32))) σ)
    (p3 : ¬ (x3 ≤ x5) → ¬ ((x2 + x5) < 0) → ¬ ((σ.1 (64 * (2 + j) + 1)) ≤ (x2 + x5)) → vp_in (x2 + x5) 80)
    (k4 : ¬ (x3 ≤ x5) → ¬ ((if ((if ((x2 + x5) < 0) then (0 : Int32) else (if ((σ.1 (64 * (2 + j) + 1)) ≤ (x2 + x5)) then (0 : Int32) else (σ.2.1 (6 + j) ((x2 + x5)).toNatClampNeg))) < 0) then (0 : Int32) else (if ((σ.1 641) ≤ (if ((x2 + x5) < 0) then (0 : Int32) else (if ((σ.1 (64 * (2 + j) + 1)) ≤ (x2 + x5)) then (0 : Int32) else (σ.2.1 (6 + j) ((x2 + x5)).toNatClampNeg)))) then (0 : Int32) else (1 : Int32))) = 0) → V ω κ 20 [(0, .ref (ω.2.2.1 10)), (1, .ref (ω.2.2.1 (2 + j))), (2, .int x2), (3, .int x3), (4, .int (x4 ||| ((1 : Int32) <<< ((if ((x2 + x5) < 0) then (0 : Int32) else (if ((σ.1 (64 * (2 + j) + 1)) ≤ (x2 + x5)) then (0 : Int32) else (σ.2.1 (6 + j) ((x2 + x5)).toNatClampNeg))) &&& 31)))), (5, .int (x5 + 1))] [] σ)
    (k5 : ¬ (x3 ≤ x5) → ((if ((if ((x2 + x5) < 0) then (0 : Int32) else (if ((σ.1 (64 * (2 + j) + 1)) ≤ (x2 + x5)) then (0 : Int32) else (σ.2.1 (6 + j) ((x2 + x5)).toNatClampNeg))) < 0) then (0 : Int32) else (if ((σ.1 641) ≤ (if ((x2 + x5) < 0) then (0 : Int32) else (if ((σ.1 (64 * (2 + j) + 1)) ≤ (x2 + x5)) then (0 : Int32) else (σ.2.1 (6 + j) ((x2 + x5)).toNatClampNeg)))) then (0 : Int32) else (1 : Int32))) = 0) → post (some (.int (-1 : Int32))) σ) :
    V ω κ 20 [(0, .ref (ω.2.2.1 10)), (1, .ref (ω.2.2.1 (2 + j))), (2, .int x2), (3, .int x3), (4, .int x4), (5, .int x5)] [] σ := by
  refine V_iload 5 K.1 dX7_takeAgenda_20 rfl ?_
  refine V_iload_n 3 K.1 dX7_takeAgenda_22 rfl rfl ?_
  refine V_icmp_ge (tgt := 62) K.1 dX7_takeAgenda_23 (by decide) (fun c23 => ?_) (fun c23 => ?_)
  · refine V_iload 4 K.1 dX7_takeAgenda_62 rfl ?_
    refine V_callS (d' := d - 1) (As := [.int x4]) K.1 dX7_takeAgenda_64 cw_X7_82 rfl (by omega) rfl (by simp [Value.category]) (m_J6_bitCount_0f7a4 K.1.wf (by omega)) (go_I ?_)
    refine V_iload_n 3 K.1 dX7_takeAgenda_67 rfl rfl ?_
    refine V_icmp_eq (tgt := 74) K.1 dX7_takeAgenda_68 (by decide) (fun c68 => ?_) (fun c68 => ?_)
    · refine V_iconst (v := 0) K.1 dX7_takeAgenda_74 (by decide) ?_
      refine V_istore (L' := [(0, .ref (ω.2.2.1 10)), (1, .ref (ω.2.2.1 (2 + j))), (2, .int x2), (3, .int x3), (4, .int x4), (5, .int (0 : Int32))]) K.1 dX7_takeAgenda_75 (by decide) rfl ?_
      exact V_sub [0, 1, 2, 3, 5] rfl (k1 c23 c68)
    · refine V_bipush (v := -2) K.1 dX7_takeAgenda_71 (by decide) ?_
      exact V_iret K dX7_takeAgenda_73 (k2 c23 c68)
  · refine V_aload_n 1 K.1 dX7_takeAgenda_26 rfl rfl ?_
    refine V_iload_n 2 K.1 dX7_takeAgenda_27 rfl rfl ?_
    refine V_iload 5 K.1 dX7_takeAgenda_28 rfl ?_
    refine V_iadd K.1 dX7_takeAgenda_30 ?_
    refine V_callV (d' := d - 1) (As := [.int (x2 + x5)]) K.1 dX7_takeAgenda_31 cw_X7_31 (shO j hj) rfl rfl (by omega) rfl (by simp [Value.category]) (m_X6_at hj K.1.wf (by omega) (p3 c23)) (go_I ?_)
    refine V_istore (L' := [(0, .ref (ω.2.2.1 10)), (1, .ref (ω.2.2.1 (2 + j))), (2, .int x2), (3, .int x3), (4, .int x4), (5, .int x5), (6, .int (if ((x2 + x5) < 0) then (0 : Int32) else (if ((σ.1 (64 * (2 + j) + 1)) ≤ (x2 + x5)) then (0 : Int32) else (σ.2.1 (6 + j) ((x2 + x5)).toNatClampNeg))))]) K.1 dX7_takeAgenda_34 (by decide) rfl ?_
    refine V_aload_n 0 K.1 dX7_takeAgenda_36 rfl rfl ?_
    refine V_iload 6 K.1 dX7_takeAgenda_37 rfl ?_
    refine V_callV (d' := d - 1) (As := [.int (if ((x2 + x5) < 0) then (0 : Int32) else (if ((σ.1 (64 * (2 + j) + 1)) ≤ (x2 + x5)) then (0 : Int32) else (σ.2.1 (6 + j) ((x2 + x5)).toNatClampNeg)))]) K.1 dX7_takeAgenda_39 cw_X7_79 rfl rfl rfl (by omega) rfl (by simp [Value.category]) (m_X7_hasMatter K.1.wf (by omega)) (go_I ?_)
    refine V_if_ne (tgt := 47) K.1 dX7_takeAgenda_42 (by decide) (fun c42 => ?_) (fun c42 => ?_)
    · refine V_iload 4 K.1 dX7_takeAgenda_47 rfl ?_
      refine V_iconst (v := 1) K.1 dX7_takeAgenda_49 (by decide) ?_
      refine V_iload 6 K.1 dX7_takeAgenda_50 rfl ?_
      refine V_ishl K.1 dX7_takeAgenda_52 ?_
      refine V_ior K.1 dX7_takeAgenda_53 ?_
      refine V_istore (L' := [(0, .ref (ω.2.2.1 10)), (1, .ref (ω.2.2.1 (2 + j))), (2, .int x2), (3, .int x3), (4, .int (x4 ||| ((1 : Int32) <<< ((if ((x2 + x5) < 0) then (0 : Int32) else (if ((σ.1 (64 * (2 + j) + 1)) ≤ (x2 + x5)) then (0 : Int32) else (σ.2.1 (6 + j) ((x2 + x5)).toNatClampNeg))) &&& 31)))), (5, .int x5), (6, .int (if ((x2 + x5) < 0) then (0 : Int32) else (if ((σ.1 (64 * (2 + j) + 1)) ≤ (x2 + x5)) then (0 : Int32) else (σ.2.1 (6 + j) ((x2 + x5)).toNatClampNeg))))]) K.1 dX7_takeAgenda_54 (by decide) rfl ?_
      refine V_iinc (v := (x5 + 1)) (L' := [(0, .ref (ω.2.2.1 10)), (1, .ref (ω.2.2.1 (2 + j))), (2, .int x2), (3, .int x3), (4, .int (x4 ||| ((1 : Int32) <<< ((if ((x2 + x5) < 0) then (0 : Int32) else (if ((σ.1 (64 * (2 + j) + 1)) ≤ (x2 + x5)) then (0 : Int32) else (σ.2.1 (6 + j) ((x2 + x5)).toNatClampNeg))) &&& 31)))), (5, .int (x5 + 1)), (6, .int (if ((x2 + x5) < 0) then (0 : Int32) else (if ((σ.1 (64 * (2 + j) + 1)) ≤ (x2 + x5)) then (0 : Int32) else (σ.2.1 (6 + j) ((x2 + x5)).toNatClampNeg))))]) 5 K.1 dX7_takeAgenda_56 rfl rfl (by decide) rfl ?_
      refine V_goto (tgt := 20) K.1 dX7_takeAgenda_59 (by decide) ?_
      exact V_sub [0, 1, 2, 3, 4, 5] rfl (k4 c23 c42)
    · refine V_iconst (v := -1) K.1 dX7_takeAgenda_45 (by decide) ?_
      exact V_iret K dX7_takeAgenda_46 (k5 c23 c42)
set_option maxRecDepth 20000 in
theorem R_X7_takeAgenda_77 {ω : WT} {κ : KT} {l : Launch} {d : Nat} {post : Option Value → St → Prop} {σ : St} {x2 x3 x5 : Int32} {j : Nat} (hj : j < 4) (K : Cm ω κ l yX7_takeAgenda cX7_takeAgenda 7 d (some .int) post) (hdp : 1 ≤ d)
    (k1 : (x3 ≤ x5) → post (some (.int x3)) (pS σ 644 x3))
    (p2 : ¬ (x3 ≤ x5) → ¬ ((x2 + x5) < 0) → ¬ ((σ.1 (64 * (2 + j) + 1)) ≤ (x2 + x5)) → vp_in (x2 + x5) 80)
    (b3 : ¬ (x3 ≤ x5) → vp_in x5 6)
    (k4 : ¬ (x3 ≤ x5) → V ω κ 77 [(0, .ref (ω.2.2.1 10)), (1, .ref (ω.2.2.1 (2 + j))), (2, .int x2), (3, .int x3), (5, .int (x5 + 1))] [] (pA σ 13 (x5).toNatClampNeg (if ((x2 + x5) < 0) then (0 : Int32) else (if ((σ.1 (64 * (2 + j) + 1)) ≤ (x2 + x5)) then (0 : Int32) else (σ.2.1 (6 + j) ((x2 + x5)).toNatClampNeg))))) :
    V ω κ 77 [(0, .ref (ω.2.2.1 10)), (1, .ref (ω.2.2.1 (2 + j))), (2, .int x2), (3, .int x3), (5, .int x5)] [] σ := by
  refine V_iload 4 K.1 dX7_takeAgenda_77 rfl ?_
  refine V_iload_n 3 K.1 dX7_takeAgenda_79 rfl rfl ?_
  refine V_icmp_ge (tgt := 104) K.1 dX7_takeAgenda_80 (by decide) (fun c80 => ?_) (fun c80 => ?_)
  · refine V_aload_n 0 K.1 dX7_takeAgenda_104 rfl rfl ?_
    refine V_iload_n 3 K.1 dX7_takeAgenda_105 rfl rfl ?_
    refine V_putI (key := 644) K.1 dX7_takeAgenda_106 rfl rfl fw_X7_28 pw_X7_4 rfl rfl rfl rfl ?_
    refine V_iload_n 3 K.1 dX7_takeAgenda_109 rfl rfl ?_
    exact V_iret K dX7_takeAgenda_110 (k1 c80)
  · refine V_aload_n 0 K.1 dX7_takeAgenda_83 rfl rfl ?_
    refine V_get (v := .ref (ω.2.2.1 13)) K.1 dX7_takeAgenda_84 rfl rfl fw_X7_18 rfl rfl ?_
    refine V_iload 4 K.1 dX7_takeAgenda_87 rfl ?_
    refine V_aload_n 1 K.1 dX7_takeAgenda_89 rfl rfl ?_
    refine V_iload_n 2 K.1 dX7_takeAgenda_90 rfl rfl ?_
    refine V_iload 4 K.1 dX7_takeAgenda_91 rfl ?_
    refine V_iadd K.1 dX7_takeAgenda_93 ?_
    refine V_callV (d' := d - 1) (As := [.int (x2 + x5)]) K.1 dX7_takeAgenda_94 cw_X7_31 (shO j hj) rfl rfl (by omega) rfl (by simp [Value.category]) (m_X6_at hj K.1.wf (by omega) (p2 c80)) (go_I ?_)
    refine V_iastore K.1 dX7_takeAgenda_97 rfl (b3 c80) ?_
    refine V_iinc (v := (x5 + 1)) (L' := [(0, .ref (ω.2.2.1 10)), (1, .ref (ω.2.2.1 (2 + j))), (2, .int x2), (3, .int x3), (5, .int (x5 + 1))]) 4 K.1 dX7_takeAgenda_98 rfl rfl (by decide) rfl ?_
    refine V_goto (tgt := 77) K.1 dX7_takeAgenda_101 (by decide) ?_
    exact (k4 c80)
set_option maxRecDepth 20000 in
theorem R_X8_agenda_0 {ω : WT} {κ : KT} {l : Launch} {d : Nat} {post : Option Value → St → Prop} {σ : St} {x1 x2 x3 x4 : Int32}  (K : Cm ω κ l yX8_agenda cX8_agenda 6 d (some .int) post)
    (k1 : V ω κ 6 [(0, .ref (ω.2.2.1 0)), (1, .int x1), (3, .int x3), (4, .int x4)] [.int x4, .int x3, .int x2, .int x1, .ref (ω.2.2.1 0)] σ) :
    V ω κ 0 [(0, .ref (ω.2.2.1 0)), (1, .int x1), (2, .int x2), (3, .int x3), (4, .int x4)] [] σ := by
  refine V_aload_n 0 K.1 dX8_agenda_0 rfl rfl ?_
  refine V_iload_n 1 K.1 dX8_agenda_1 rfl rfl ?_
  refine V_iload_n 2 K.1 dX8_agenda_2 rfl rfl ?_
  refine V_iload_n 3 K.1 dX8_agenda_3 rfl rfl ?_
  refine V_iload 4 K.1 dX8_agenda_4 rfl ?_
  exact V_sub [0, 1, 3, 4] rfl k1
set_option maxRecDepth 20000 in
theorem R_X8_agenda_9 {ω : WT} {κ : KT} {l : Launch} {d : Nat} {post : Option Value → St → Prop} {σ : St} {x1 x3 x4 s0 : Int32}  (K : Cm ω κ l yX8_agenda cX8_agenda 6 d (some .int) post) (hdp : 1 ≤ d)
    (k1 : (s0 = 0) → ¬ ((if ((σ.1 640) ≤ 0) then (0 : Int32) else (1 : Int32)) = 0) → V ω κ 41 [(3, .int x3), (4, .int x4)] [.int x1, .ref (ω.2.2.1 1), .ref (ω.2.2.1 10)] σ)
    (k2 : (s0 = 0) → ((if ((σ.1 640) ≤ 0) then (0 : Int32) else (1 : Int32)) = 0) → post (some (.int (-3 : Int32))) σ)
    (k3 : ¬ (s0 = 0) → post (some (.int s0)) σ) :
    V ω κ 9 [(0, .ref (ω.2.2.1 0)), (1, .int x1), (3, .int x3), (4, .int x4)] [.int s0] σ := by
  refine V_istore (L' := [(0, .ref (ω.2.2.1 0)), (1, .int x1), (3, .int x3), (4, .int x4), (5, .int s0)]) K.1 dX8_agenda_9 (by decide) rfl ?_
  refine V_iload 4 K.1 dX8_agenda_11 rfl ?_
  refine V_if_eq (tgt := 19) K.1 dX8_agenda_13 (by decide) (fun c13 => ?_) (fun c13 => ?_)
  · refine V_aload_n 0 K.1 dX8_agenda_19 rfl rfl ?_
    refine V_get (v := .ref (ω.2.2.1 10)) K.1 dX8_agenda_20 rfl rfl fw_X8_21 rfl rfl ?_
    refine V_callV (d' := d - 1) (As := []) K.1 dX8_agenda_23 cw_X8_107 rfl rfl rfl (by omega) rfl (by simp [Value.category]) (m_X7_stands K.1.wf (by omega)) (go_I ?_)
    refine V_if_ne (tgt := 32) K.1 dX8_agenda_26 (by decide) (fun c26 => ?_) (fun c26 => ?_)
    · refine V_aload_n 0 K.1 dX8_agenda_32 rfl rfl ?_
      refine V_get (v := .ref (ω.2.2.1 10)) K.1 dX8_agenda_33 rfl rfl fw_X8_21 rfl rfl ?_
      refine V_aload_n 0 K.1 dX8_agenda_36 rfl rfl ?_
      refine V_get (v := .ref (ω.2.2.1 1)) K.1 dX8_agenda_37 rfl rfl fw_X8_13 rfl rfl ?_
      refine V_iload_n 1 K.1 dX8_agenda_40 rfl rfl ?_
      exact V_sub [2, 3] rfl (k1 c13 c26)
    · refine V_bipush (v := -3) K.1 dX8_agenda_29 (by decide) ?_
      exact V_iret K dX8_agenda_31 (k2 c13 c26)
  · refine V_iload 4 K.1 dX8_agenda_16 rfl ?_
    exact V_iret K dX8_agenda_18 (k3 c13)
set_option maxRecDepth 20000 in
theorem R_X8_agenda_42 {ω : WT} {κ : KT} {l : Launch} {d : Nat} {post : Option Value → St → Prop} {σ : St} {x3 x4 : Int32} {j : Nat} (hj : j < 4) (K : Cm ω κ l yX8_agenda cX8_agenda 6 d (some .int) post)
    (k1 : V ω κ 45 [] [.int x4, .int x3, .ref (ω.2.2.1 (2 + j)), .ref (ω.2.2.1 10)] σ) :
    V ω κ 42 [(3, .int x3), (4, .int x4)] [.ref (ω.2.2.1 (2 + j)), .ref (ω.2.2.1 10)] σ := by
  refine V_iload_n 0 K.1 dX8_agenda_42 rfl rfl ?_
  refine V_iload 1 K.1 dX8_agenda_43 rfl ?_
  exact V_sub [] rfl k1
set_option maxRecDepth 20000 in
theorem R_X8_agenda_48 {ω : WT} {κ : KT} {l : Launch} {d : Nat} {post : Option Value → St → Prop} {σ : St} {s0 : Int32}  (K : Cm ω κ l yX8_agenda cX8_agenda 6 d (some .int) post)
    (k1 : post (some (.int s0)) σ) :
    V ω κ 48 [] [.int s0] σ := by
  exact V_iret K dX8_agenda_48 k1
set_option maxRecDepth 20000 in
theorem C_X8_agenda_6 {ω : WT} {κ : KT} {l : Launch} {d : Nat} {post : Option Value → St → Prop} {σ : St} {x1 x3 x4 s1 s2 s3 s4 : Int32}  {post' : Option Value → St → Prop} (K : Cm ω κ l yX8_agenda cX8_agenda 6 d (some .int) post) (hdp : 1 ≤ d) (hM : Sp ω l yX8_whyNotTaken cX8_whyNotTaken 6 (some .int) (d - 1) [.ref (ω.2.2.1 0), .int s1, .int s2, .int s3, .int s4] σ post')
    (kk : ∀ (v : Option Value) (σ' : St), post' v σ' → V ω κ 9 [(0, .ref (ω.2.2.1 0)), (1, .int x1), (3, .int x3), (4, .int x4)] (v.toList ++ []) σ') : V ω κ 6 [(0, .ref (ω.2.2.1 0)), (1, .int x1), (3, .int x3), (4, .int x4)] [.int s4, .int s3, .int s2, .int s1, .ref (ω.2.2.1 0)] σ := by
  exact V_callV (d' := d - 1) (As := [.int s1, .int s2, .int s3, .int s4]) (rest := []) K.1 dX8_agenda_6 cw_X8_73 rfl rfl rfl (by omega) rfl (by simp [Value.category]) hM (fun v σ' h => kk v σ' h)
set_option maxRecDepth 20000 in
theorem C_X8_agenda_45 {ω : WT} {κ : KT} {l : Launch} {d : Nat} {post : Option Value → St → Prop} {σ : St} {s2 s3 : Int32} {j : Nat} (hj : j < 4) {post' : Option Value → St → Prop} (K : Cm ω κ l yX8_agenda cX8_agenda 6 d (some .int) post) (hdp : 1 ≤ d) (hM : Sp ω l yX7_takeAgenda cX7_takeAgenda 7 (some .int) (d - 1) [.ref (ω.2.2.1 10), .ref (ω.2.2.1 (2 + j)), .int s2, .int s3] σ post')
    (kk : ∀ (v : Option Value) (σ' : St), post' v σ' → V ω κ 48 [] (v.toList ++ []) σ') : V ω κ 45 [] [.int s3, .int s2, .ref (ω.2.2.1 (2 + j)), .ref (ω.2.2.1 10)] σ := by
  exact V_callV (d' := d - 1) (As := [.ref (ω.2.2.1 (2 + j)), .int s2, .int s3]) (rest := []) K.1 dX8_agenda_45 cw_X8_117 rfl rfl rfl (by omega) rfl (by simp [Value.category]) hM (fun v σ' h => kk v σ' h)
theorem A_X8_agenda_41 {ω : WT} {κ : KT} {l : Launch} {d : Nat} {post : Option Value → St → Prop} {σ : St} {x3 x4 : Int32}  {j : Nat} (hj : j < 4) (K : Cm ω κ l yX8_agenda cX8_agenda 6 d (some .int) post)
    (kk : V ω κ 42 [(3, .int x3), (4, .int x4)] [.ref (ω.2.2.1 (2 + j)), .ref (ω.2.2.1 10)] σ) : V ω κ 41 [(3, .int x3), (4, .int x4)] [.int (nI j), .ref (ω.2.2.1 1), .ref (ω.2.2.1 10)] σ := by
  refine V_aaload K.1 dX8_agenda_41 rfl (vp_in_nI hj (by omega)) ?_
  rw [nI_clamp (by omega)]
  exact kk
set_option maxRecDepth 20000 in
theorem R_X9_agenda_0 {ω : WT} {κ : KT} {l : Launch} {d : Nat} {post : Option Value → St → Prop} {σ : St} {x1 x2 x3 x4 : Int32}  (K : Cm ω κ l yX9_agenda cX9_agenda 10 d (some .int) post) (hdp : 2 ≤ d)
    (p1 : ¬ ((if (x1 < (0 : Int32)) then (0 : Int32) else (if ((3 : Int32) < x1) then (0 : Int32) else (1 : Int32))) = 0) → ¬ ((if (x2 < (0 : Int32)) then (0 : Int32) else (if ((2 : Int32) < x2) then (0 : Int32) else (1 : Int32))) = 0) → vp_in x1 4)
    (p2 : ¬ ((if (x1 < (0 : Int32)) then (0 : Int32) else (if ((3 : Int32) < x1) then (0 : Int32) else (1 : Int32))) = 0) → ¬ ((if (x2 < (0 : Int32)) then (0 : Int32) else (if ((2 : Int32) < x2) then (0 : Int32) else (1 : Int32))) = 0) → ((σ.2.1 36 (x1).toNatClampNeg) = (-9 : Int32)) → vp_in x1 4)
    (p3 : ¬ ((if (x1 < (0 : Int32)) then (0 : Int32) else (if ((3 : Int32) < x1) then (0 : Int32) else (1 : Int32))) = 0) → ¬ ((if (x2 < (0 : Int32)) then (0 : Int32) else (if ((2 : Int32) < x2) then (0 : Int32) else (1 : Int32))) = 0) → ((σ.2.1 36 (x1).toNatClampNeg) = (-9 : Int32)) → ¬ ((σ.2.1 36 (x1).toNatClampNeg) = (-9 : Int32)) → (0 ≤ x4) → ¬ (x3 < 0) → vp_in x1 4)
    (p4 : ¬ ((if (x1 < (0 : Int32)) then (0 : Int32) else (if ((3 : Int32) < x1) then (0 : Int32) else (1 : Int32))) = 0) → ¬ ((if (x2 < (0 : Int32)) then (0 : Int32) else (if ((2 : Int32) < x2) then (0 : Int32) else (1 : Int32))) = 0) → ((σ.2.1 36 (x1).toNatClampNeg) = (-9 : Int32)) → ¬ ((σ.2.1 36 (x1).toNatClampNeg) = (-9 : Int32)) → (0 ≤ x4) → ¬ (x3 < 0) → ¬ ((σ.2.1 37 (x1).toNatClampNeg) < x3) → vp_in x1 4)
    (p5 : ¬ ((if (x1 < (0 : Int32)) then (0 : Int32) else (if ((3 : Int32) < x1) then (0 : Int32) else (1 : Int32))) = 0) → ¬ ((if (x2 < (0 : Int32)) then (0 : Int32) else (if ((2 : Int32) < x2) then (0 : Int32) else (1 : Int32))) = 0) → ¬ ((σ.2.1 36 (x1).toNatClampNeg) = (-9 : Int32)) → vp_in x1 4)
    (p6 : ¬ ((if (x1 < (0 : Int32)) then (0 : Int32) else (if ((3 : Int32) < x1) then (0 : Int32) else (1 : Int32))) = 0) → ¬ ((if (x2 < (0 : Int32)) then (0 : Int32) else (if ((2 : Int32) < x2) then (0 : Int32) else (1 : Int32))) = 0) → ¬ ((σ.2.1 36 (x1).toNatClampNeg) = (-9 : Int32)) → ((σ.2.1 36 (x1).toNatClampNeg) = x2) → vp_in x1 4)
    (p7 : ¬ ((if (x1 < (0 : Int32)) then (0 : Int32) else (if ((3 : Int32) < x1) then (0 : Int32) else (1 : Int32))) = 0) → ¬ ((if (x2 < (0 : Int32)) then (0 : Int32) else (if ((2 : Int32) < x2) then (0 : Int32) else (1 : Int32))) = 0) → ¬ ((σ.2.1 36 (x1).toNatClampNeg) = (-9 : Int32)) → ((σ.2.1 36 (x1).toNatClampNeg) = x2) → ¬ ((σ.2.1 36 (x1).toNatClampNeg) = (-9 : Int32)) → (0 ≤ x4) → ¬ (x3 < 0) → vp_in x1 4)
    (p8 : ¬ ((if (x1 < (0 : Int32)) then (0 : Int32) else (if ((3 : Int32) < x1) then (0 : Int32) else (1 : Int32))) = 0) → ¬ ((if (x2 < (0 : Int32)) then (0 : Int32) else (if ((2 : Int32) < x2) then (0 : Int32) else (1 : Int32))) = 0) → ¬ ((σ.2.1 36 (x1).toNatClampNeg) = (-9 : Int32)) → ((σ.2.1 36 (x1).toNatClampNeg) = x2) → ¬ ((σ.2.1 36 (x1).toNatClampNeg) = (-9 : Int32)) → (0 ≤ x4) → ¬ (x3 < 0) → ¬ ((σ.2.1 37 (x1).toNatClampNeg) < x3) → vp_in x1 4)
    (k9 : ¬ ((if (x1 < (0 : Int32)) then (0 : Int32) else (if ((3 : Int32) < x1) then (0 : Int32) else (1 : Int32))) = 0) → ¬ ((if (x2 < (0 : Int32)) then (0 : Int32) else (if ((2 : Int32) < x2) then (0 : Int32) else (1 : Int32))) = 0) → ((if ((σ.2.1 36 (x1).toNatClampNeg) = (-9 : Int32)) then (if ((σ.2.1 36 (x1).toNatClampNeg) = (-9 : Int32)) then (1 : Int32) else (if (0 ≤ x4) then (if (x3 < 0) then (3 : Int32) else (if ((σ.2.1 37 (x1).toNatClampNeg) < x3) then (3 : Int32) else (if (x4 ≤ ((σ.2.1 37 (x1).toNatClampNeg) - x3)) then (0 : Int32) else (3 : Int32)))) else (4 : Int32))) else (if ((σ.2.1 36 (x1).toNatClampNeg) = x2) then (if ((σ.2.1 36 (x1).toNatClampNeg) = (-9 : Int32)) then (1 : Int32) else (if (0 ≤ x4) then (if (x3 < 0) then (3 : Int32) else (if ((σ.2.1 37 (x1).toNatClampNeg) < x3) then (3 : Int32) else (if (x4 ≤ ((σ.2.1 37 (x1).toNatClampNeg) - x3)) then (0 : Int32) else (3 : Int32)))) else (4 : Int32))) else (2 : Int32))) = 0) → ¬ ((if ((σ.1 2245) ≤ 0) then (0 : Int32) else (1 : Int32)) = 0) → ¬ ((if (x4 < (1 : Int32)) then (0 : Int32) else (if ((6 : Int32) < x4) then (0 : Int32) else (1 : Int32))) = 0) → V ω κ 88 [(0, .ref (ω.2.2.1 35)), (4, .int x4), (6, .int (((80 : Int32) * x1) + x3)), (7, .int (0 : Int32)), (8, .int (0 : Int32)), (9, .int (0 : Int32))] [] (pS σ 2240 (0 : Int32)))
    (k10 : ¬ ((if (x1 < (0 : Int32)) then (0 : Int32) else (if ((3 : Int32) < x1) then (0 : Int32) else (1 : Int32))) = 0) → ¬ ((if (x2 < (0 : Int32)) then (0 : Int32) else (if ((2 : Int32) < x2) then (0 : Int32) else (1 : Int32))) = 0) → ((if ((σ.2.1 36 (x1).toNatClampNeg) = (-9 : Int32)) then (if ((σ.2.1 36 (x1).toNatClampNeg) = (-9 : Int32)) then (1 : Int32) else (if (0 ≤ x4) then (if (x3 < 0) then (3 : Int32) else (if ((σ.2.1 37 (x1).toNatClampNeg) < x3) then (3 : Int32) else (if (x4 ≤ ((σ.2.1 37 (x1).toNatClampNeg) - x3)) then (0 : Int32) else (3 : Int32)))) else (4 : Int32))) else (if ((σ.2.1 36 (x1).toNatClampNeg) = x2) then (if ((σ.2.1 36 (x1).toNatClampNeg) = (-9 : Int32)) then (1 : Int32) else (if (0 ≤ x4) then (if (x3 < 0) then (3 : Int32) else (if ((σ.2.1 37 (x1).toNatClampNeg) < x3) then (3 : Int32) else (if (x4 ≤ ((σ.2.1 37 (x1).toNatClampNeg) - x3)) then (0 : Int32) else (3 : Int32)))) else (4 : Int32))) else (2 : Int32))) = 0) → ¬ ((if ((σ.1 2245) ≤ 0) then (0 : Int32) else (1 : Int32)) = 0) → ((if (x4 < (1 : Int32)) then (0 : Int32) else (if ((6 : Int32) < x4) then (0 : Int32) else (1 : Int32))) = 0) → post (some (.int (-2 : Int32))) (pS σ 2240 (0 : Int32)))
    (k11 : ¬ ((if (x1 < (0 : Int32)) then (0 : Int32) else (if ((3 : Int32) < x1) then (0 : Int32) else (1 : Int32))) = 0) → ¬ ((if (x2 < (0 : Int32)) then (0 : Int32) else (if ((2 : Int32) < x2) then (0 : Int32) else (1 : Int32))) = 0) → ((if ((σ.2.1 36 (x1).toNatClampNeg) = (-9 : Int32)) then (if ((σ.2.1 36 (x1).toNatClampNeg) = (-9 : Int32)) then (1 : Int32) else (if (0 ≤ x4) then (if (x3 < 0) then (3 : Int32) else (if ((σ.2.1 37 (x1).toNatClampNeg) < x3) then (3 : Int32) else (if (x4 ≤ ((σ.2.1 37 (x1).toNatClampNeg) - x3)) then (0 : Int32) else (3 : Int32)))) else (4 : Int32))) else (if ((σ.2.1 36 (x1).toNatClampNeg) = x2) then (if ((σ.2.1 36 (x1).toNatClampNeg) = (-9 : Int32)) then (1 : Int32) else (if (0 ≤ x4) then (if (x3 < 0) then (3 : Int32) else (if ((σ.2.1 37 (x1).toNatClampNeg) < x3) then (3 : Int32) else (if (x4 ≤ ((σ.2.1 37 (x1).toNatClampNeg) - x3)) then (0 : Int32) else (3 : Int32)))) else (4 : Int32))) else (2 : Int32))) = 0) → ((if ((σ.1 2245) ≤ 0) then (0 : Int32) else (1 : Int32)) = 0) → post (some (.int (-3 : Int32))) (pS σ 2240 (0 : Int32)))
    (k12 : ¬ ((if (x1 < (0 : Int32)) then (0 : Int32) else (if ((3 : Int32) < x1) then (0 : Int32) else (1 : Int32))) = 0) → ¬ ((if (x2 < (0 : Int32)) then (0 : Int32) else (if ((2 : Int32) < x2) then (0 : Int32) else (1 : Int32))) = 0) → ¬ ((if ((σ.2.1 36 (x1).toNatClampNeg) = (-9 : Int32)) then (if ((σ.2.1 36 (x1).toNatClampNeg) = (-9 : Int32)) then (1 : Int32) else (if (0 ≤ x4) then (if (x3 < 0) then (3 : Int32) else (if ((σ.2.1 37 (x1).toNatClampNeg) < x3) then (3 : Int32) else (if (x4 ≤ ((σ.2.1 37 (x1).toNatClampNeg) - x3)) then (0 : Int32) else (3 : Int32)))) else (4 : Int32))) else (if ((σ.2.1 36 (x1).toNatClampNeg) = x2) then (if ((σ.2.1 36 (x1).toNatClampNeg) = (-9 : Int32)) then (1 : Int32) else (if (0 ≤ x4) then (if (x3 < 0) then (3 : Int32) else (if ((σ.2.1 37 (x1).toNatClampNeg) < x3) then (3 : Int32) else (if (x4 ≤ ((σ.2.1 37 (x1).toNatClampNeg) - x3)) then (0 : Int32) else (3 : Int32)))) else (4 : Int32))) else (2 : Int32))) = 0) → post (some (.int ((-10 : Int32) - (if (((pS σ 2240 (0 : Int32)).2.1 36 (x1).toNatClampNeg) = (-9 : Int32)) then (if (((pS σ 2240 (0 : Int32)).2.1 36 (x1).toNatClampNeg) = (-9 : Int32)) then (1 : Int32) else (if (0 ≤ x4) then (if (x3 < 0) then (3 : Int32) else (if (((pS σ 2240 (0 : Int32)).2.1 37 (x1).toNatClampNeg) < x3) then (3 : Int32) else (if (x4 ≤ (((pS σ 2240 (0 : Int32)).2.1 37 (x1).toNatClampNeg) - x3)) then (0 : Int32) else (3 : Int32)))) else (4 : Int32))) else (if (((pS σ 2240 (0 : Int32)).2.1 36 (x1).toNatClampNeg) = x2) then (if (((pS σ 2240 (0 : Int32)).2.1 36 (x1).toNatClampNeg) = (-9 : Int32)) then (1 : Int32) else (if (0 ≤ x4) then (if (x3 < 0) then (3 : Int32) else (if (((pS σ 2240 (0 : Int32)).2.1 37 (x1).toNatClampNeg) < x3) then (3 : Int32) else (if (x4 ≤ (((pS σ 2240 (0 : Int32)).2.1 37 (x1).toNatClampNeg) - x3)) then (0 : Int32) else (3 : Int32)))) else (4 : Int32))) else (2 : Int32)))))) (pS (pS σ 2240 (0 : Int32)) 2240 (if (((pS σ 2240 (0 : Int32)).2.1 36 (x1).toNatClampNeg) = (-9 : Int32)) then (if (((pS σ 2240 (0 : Int32)).2.1 36 (x1).toNatClampNeg) = (-9 : Int32)) then (1 : Int32) else (if (0 ≤ x4) then (if (x3 < 0) then (3 : Int32) else (if (((pS σ 2240 (0 : Int32)).2.1 37 (x1).toNatClampNeg) < x3) then (3 : Int32) else (if (x4 ≤ (((pS σ 2240 (0 : Int32)).2.1 37 (x1).toNatClampNeg) - x3)) then (0 : Int32) else (3 : Int32)))) else (4 : Int32))) else (if (((pS σ 2240 (0 : Int32)).2.1 36 (x1).toNatClampNeg) = x2) then (if (((pS σ 2240 (0 : Int32)).2.1 36 (x1).toNatClampNeg) = (-9 : Int32)) then (1 : Int32) else (if (0 ≤ x4) then (if (x3 < 0) then (3 : Int32) else (if (((pS σ 2240 (0 : Int32)).2.1 37 (x1).toNatClampNeg) < x3) then (3 : Int32) else (if (x4 ≤ (((pS σ 2240 (0 : Int32)).2.1 37 (x1).toNatClampNeg) - x3)) then (0 : Int32) else (3 : Int32)))) else (4 : Int32))) else (2 : Int32)))))
    (k13 : ¬ ((if (x1 < (0 : Int32)) then (0 : Int32) else (if ((3 : Int32) < x1) then (0 : Int32) else (1 : Int32))) = 0) → ((if (x2 < (0 : Int32)) then (0 : Int32) else (if ((2 : Int32) < x2) then (0 : Int32) else (1 : Int32))) = 0) → post (some (.int (-2 : Int32))) (pS σ 2240 (0 : Int32)))
    (k14 : ((if (x1 < (0 : Int32)) then (0 : Int32) else (if ((3 : Int32) < x1) then (0 : Int32) else (1 : Int32))) = 0) → post (some (.int (-1 : Int32))) (pS σ 2240 (0 : Int32))) :
    V ω κ 0 [(0, .ref (ω.2.2.1 35)), (1, .int x1), (2, .int x2), (3, .int x3), (4, .int x4)] [] σ := by
  refine V_aload_n 0 K.1 dX9_agenda_0 rfl rfl ?_
  refine V_iconst (v := 0) K.1 dX9_agenda_1 (by decide) ?_
  refine V_putI (key := 2240) K.1 dX9_agenda_2 rfl rfl fw_X9_81 pw_X9_0 rfl rfl rfl rfl ?_
  refine V_iload_n 1 K.1 dX9_agenda_5 rfl rfl ?_
  refine V_callS (d' := d - 1) (As := [.int x1]) K.1 dX9_agenda_6 cw_X9_100 rfl (by omega) rfl (by simp [Value.category]) (m_X9_isSheet K.1.wf (by omega)) (go_I ?_)
  refine V_if_ne (tgt := 14) K.1 dX9_agenda_9 (by decide) (fun c9 => ?_) (fun c9 => ?_)
  · refine V_iload_n 2 K.1 dX9_agenda_14 rfl rfl ?_
    refine V_callS (d' := d - 1) (As := [.int x2]) K.1 dX9_agenda_15 cw_X9_104 rfl (by omega) rfl (by simp [Value.category]) (m_X9_isSort K.1.wf (by omega)) (go_I ?_)
    refine V_if_ne (tgt := 24) K.1 dX9_agenda_18 (by decide) (fun c18 => ?_) (fun c18 => ?_)
    · refine V_aload_n 0 K.1 dX9_agenda_24 rfl rfl ?_
      refine V_iload_n 1 K.1 dX9_agenda_25 rfl rfl ?_
      refine V_iload_n 2 K.1 dX9_agenda_26 rfl rfl ?_
      refine V_iload_n 3 K.1 dX9_agenda_27 rfl rfl ?_
      refine V_iload 4 K.1 dX9_agenda_28 rfl ?_
      refine V_callV (d' := d - 1) (As := [.int x1, .int x2, .int x3, .int x4]) K.1 dX9_agenda_30 cw_X9_107 rfl rfl rfl (by omega) rfl (by simp [Value.category]) (m_X9_against K.1.wf (by omega) (p1 c9 c18) (p2 c9 c18) (p3 c9 c18) (p4 c9 c18) (p5 c9 c18) (p6 c9 c18) (p7 c9 c18) (p8 c9 c18)) (go_I ?_)
      refine V_istore (L' := [(0, .ref (ω.2.2.1 35)), (1, .int x1), (2, .int x2), (3, .int x3), (4, .int x4), (5, .int (if ((σ.2.1 36 (x1).toNatClampNeg) = (-9 : Int32)) then (if ((σ.2.1 36 (x1).toNatClampNeg) = (-9 : Int32)) then (1 : Int32) else (if (0 ≤ x4) then (if (x3 < 0) then (3 : Int32) else (if ((σ.2.1 37 (x1).toNatClampNeg) < x3) then (3 : Int32) else (if (x4 ≤ ((σ.2.1 37 (x1).toNatClampNeg) - x3)) then (0 : Int32) else (3 : Int32)))) else (4 : Int32))) else (if ((σ.2.1 36 (x1).toNatClampNeg) = x2) then (if ((σ.2.1 36 (x1).toNatClampNeg) = (-9 : Int32)) then (1 : Int32) else (if (0 ≤ x4) then (if (x3 < 0) then (3 : Int32) else (if ((σ.2.1 37 (x1).toNatClampNeg) < x3) then (3 : Int32) else (if (x4 ≤ ((σ.2.1 37 (x1).toNatClampNeg) - x3)) then (0 : Int32) else (3 : Int32)))) else (4 : Int32))) else (2 : Int32))))]) K.1 dX9_agenda_33 (by decide) rfl ?_
      refine V_iload 5 K.1 dX9_agenda_35 rfl ?_
      refine V_if_eq (tgt := 47) K.1 dX9_agenda_37 (by decide) (fun c37 => ?_) (fun c37 => ?_)
      · refine V_aload_n 0 K.1 dX9_agenda_47 rfl rfl ?_
        refine V_callV (d' := d - 1) (As := []) K.1 dX9_agenda_48 cw_X9_146 rfl rfl rfl (by omega) rfl (by simp [Value.category]) (m_X9_isTown K.1.wf (by omega)) (go_I ?_)
        refine V_if_ne (tgt := 57) K.1 dX9_agenda_51 (by decide) (fun c51 => ?_) (fun c51 => ?_)
        · refine V_iload 4 K.1 dX9_agenda_57 rfl ?_
          refine V_iconst (v := 1) K.1 dX9_agenda_59 (by decide) ?_
          refine V_bipush (v := 6) K.1 dX9_agenda_60 (by decide) ?_
          refine V_callS (d' := d - 1) (As := [.int x4, .int (1 : Int32), .int (6 : Int32)]) K.1 dX9_agenda_62 cw_X9_87 rfl (by omega) rfl (by simp [Value.category]) (m_X9_within K.1.wf (by omega)) (go_I ?_)
          refine V_if_ne (tgt := 71) K.1 dX9_agenda_65 (by decide) (fun c65 => ?_) (fun c65 => ?_)
          · refine V_bipush (v := 80) K.1 dX9_agenda_71 (by decide) ?_
            refine V_iload_n 1 K.1 dX9_agenda_73 rfl rfl ?_
            refine V_imul K.1 dX9_agenda_74 ?_
            refine V_iload_n 3 K.1 dX9_agenda_75 rfl rfl ?_
            refine V_iadd K.1 dX9_agenda_76 ?_
            refine V_istore (L' := [(0, .ref (ω.2.2.1 35)), (1, .int x1), (2, .int x2), (3, .int x3), (4, .int x4), (5, .int (if ((σ.2.1 36 (x1).toNatClampNeg) = (-9 : Int32)) then (if ((σ.2.1 36 (x1).toNatClampNeg) = (-9 : Int32)) then (1 : Int32) else (if (0 ≤ x4) then (if (x3 < 0) then (3 : Int32) else (if ((σ.2.1 37 (x1).toNatClampNeg) < x3) then (3 : Int32) else (if (x4 ≤ ((σ.2.1 37 (x1).toNatClampNeg) - x3)) then (0 : Int32) else (3 : Int32)))) else (4 : Int32))) else (if ((σ.2.1 36 (x1).toNatClampNeg) = x2) then (if ((σ.2.1 36 (x1).toNatClampNeg) = (-9 : Int32)) then (1 : Int32) else (if (0 ≤ x4) then (if (x3 < 0) then (3 : Int32) else (if ((σ.2.1 37 (x1).toNatClampNeg) < x3) then (3 : Int32) else (if (x4 ≤ ((σ.2.1 37 (x1).toNatClampNeg) - x3)) then (0 : Int32) else (3 : Int32)))) else (4 : Int32))) else (2 : Int32)))), (6, .int (((80 : Int32) * x1) + x3))]) K.1 dX9_agenda_77 (by decide) rfl ?_
            refine V_iconst (v := 0) K.1 dX9_agenda_79 (by decide) ?_
            refine V_istore (L' := [(0, .ref (ω.2.2.1 35)), (1, .int x1), (2, .int x2), (3, .int x3), (4, .int x4), (5, .int (if ((σ.2.1 36 (x1).toNatClampNeg) = (-9 : Int32)) then (if ((σ.2.1 36 (x1).toNatClampNeg) = (-9 : Int32)) then (1 : Int32) else (if (0 ≤ x4) then (if (x3 < 0) then (3 : Int32) else (if ((σ.2.1 37 (x1).toNatClampNeg) < x3) then (3 : Int32) else (if (x4 ≤ ((σ.2.1 37 (x1).toNatClampNeg) - x3)) then (0 : Int32) else (3 : Int32)))) else (4 : Int32))) else (if ((σ.2.1 36 (x1).toNatClampNeg) = x2) then (if ((σ.2.1 36 (x1).toNatClampNeg) = (-9 : Int32)) then (1 : Int32) else (if (0 ≤ x4) then (if (x3 < 0) then (3 : Int32) else (if ((σ.2.1 37 (x1).toNatClampNeg) < x3) then (3 : Int32) else (if (x4 ≤ ((σ.2.1 37 (x1).toNatClampNeg) - x3)) then (0 : Int32) else (3 : Int32)))) else (4 : Int32))) else (2 : Int32)))), (6, .int (((80 : Int32) * x1) + x3)), (7, .int (0 : Int32))]) K.1 dX9_agenda_80 (by decide) rfl ?_
            refine V_iconst (v := 0) K.1 dX9_agenda_82 (by decide) ?_
            refine V_istore (L' := [(0, .ref (ω.2.2.1 35)), (1, .int x1), (2, .int x2), (3, .int x3), (4, .int x4), (5, .int (if ((σ.2.1 36 (x1).toNatClampNeg) = (-9 : Int32)) then (if ((σ.2.1 36 (x1).toNatClampNeg) = (-9 : Int32)) then (1 : Int32) else (if (0 ≤ x4) then (if (x3 < 0) then (3 : Int32) else (if ((σ.2.1 37 (x1).toNatClampNeg) < x3) then (3 : Int32) else (if (x4 ≤ ((σ.2.1 37 (x1).toNatClampNeg) - x3)) then (0 : Int32) else (3 : Int32)))) else (4 : Int32))) else (if ((σ.2.1 36 (x1).toNatClampNeg) = x2) then (if ((σ.2.1 36 (x1).toNatClampNeg) = (-9 : Int32)) then (1 : Int32) else (if (0 ≤ x4) then (if (x3 < 0) then (3 : Int32) else (if ((σ.2.1 37 (x1).toNatClampNeg) < x3) then (3 : Int32) else (if (x4 ≤ ((σ.2.1 37 (x1).toNatClampNeg) - x3)) then (0 : Int32) else (3 : Int32)))) else (4 : Int32))) else (2 : Int32)))), (6, .int (((80 : Int32) * x1) + x3)), (7, .int (0 : Int32)), (8, .int (0 : Int32))]) K.1 dX9_agenda_83 (by decide) rfl ?_
            refine V_iconst (v := 0) K.1 dX9_agenda_85 (by decide) ?_
            refine V_istore (L' := [(0, .ref (ω.2.2.1 35)), (1, .int x1), (2, .int x2), (3, .int x3), (4, .int x4), (5, .int (if ((σ.2.1 36 (x1).toNatClampNeg) = (-9 : Int32)) then (if ((σ.2.1 36 (x1).toNatClampNeg) = (-9 : Int32)) then (1 : Int32) else (if (0 ≤ x4) then (if (x3 < 0) then (3 : Int32) else (if ((σ.2.1 37 (x1).toNatClampNeg) < x3) then (3 : Int32) else (if (x4 ≤ ((σ.2.1 37 (x1).toNatClampNeg) - x3)) then (0 : Int32) else (3 : Int32)))) else (4 : Int32))) else (if ((σ.2.1 36 (x1).toNatClampNeg) = x2) then (if ((σ.2.1 36 (x1).toNatClampNeg) = (-9 : Int32)) then (1 : Int32) else (if (0 ≤ x4) then (if (x3 < 0) then (3 : Int32) else (if ((σ.2.1 37 (x1).toNatClampNeg) < x3) then (3 : Int32) else (if (x4 ≤ ((σ.2.1 37 (x1).toNatClampNeg) - x3)) then (0 : Int32) else (3 : Int32)))) else (4 : Int32))) else (2 : Int32)))), (6, .int (((80 : Int32) * x1) + x3)), (7, .int (0 : Int32)), (8, .int (0 : Int32)), (9, .int (0 : Int32))]) K.1 dX9_agenda_86 (by decide) rfl ?_
            exact V_sub [0, 4, 6, 7, 8, 9] rfl (k9 c9 c18 c37 c51 c65)
          · refine V_bipush (v := -2) K.1 dX9_agenda_68 (by decide) ?_
            exact V_iret K dX9_agenda_70 (k10 c9 c18 c37 c51 c65)
        · refine V_bipush (v := -3) K.1 dX9_agenda_54 (by decide) ?_
          exact V_iret K dX9_agenda_56 (k11 c9 c18 c37 c51)
      · refine V_aload_n 0 K.1 dX9_agenda_40 rfl rfl ?_
        refine V_iload 5 K.1 dX9_agenda_41 rfl ?_
        refine V_callV (d' := d - 1) (As := [.int (if ((σ.2.1 36 (x1).toNatClampNeg) = (-9 : Int32)) then (if ((σ.2.1 36 (x1).toNatClampNeg) = (-9 : Int32)) then (1 : Int32) else (if (0 ≤ x4) then (if (x3 < 0) then (3 : Int32) else (if ((σ.2.1 37 (x1).toNatClampNeg) < x3) then (3 : Int32) else (if (x4 ≤ ((σ.2.1 37 (x1).toNatClampNeg) - x3)) then (0 : Int32) else (3 : Int32)))) else (4 : Int32))) else (if ((σ.2.1 36 (x1).toNatClampNeg) = x2) then (if ((σ.2.1 36 (x1).toNatClampNeg) = (-9 : Int32)) then (1 : Int32) else (if (0 ≤ x4) then (if (x3 < 0) then (3 : Int32) else (if ((σ.2.1 37 (x1).toNatClampNeg) < x3) then (3 : Int32) else (if (x4 ≤ ((σ.2.1 37 (x1).toNatClampNeg) - x3)) then (0 : Int32) else (3 : Int32)))) else (4 : Int32))) else (2 : Int32)))]) K.1 dX9_agenda_43 cw_X9_111 rfl rfl rfl (by omega) rfl (by simp [Value.category]) (m_X9_fails K.1.wf (by omega)) (go_I ?_)
        exact V_iret K dX9_agenda_46 (k12 c9 c18 c37)
    · refine V_bipush (v := -2) K.1 dX9_agenda_21 (by decide) ?_
      exact V_iret K dX9_agenda_23 (k13 c9 c18)
  · refine V_iconst (v := -1) K.1 dX9_agenda_12 (by decide) ?_
    exact V_iret K dX9_agenda_13 (k14 c9)
set_option maxRecDepth 20000 in
theorem R_X9_agenda_88 {ω : WT} {κ : KT} {l : Launch} {d : Nat} {post : Option Value → St → Prop} {σ : St} {x4 x6 x7 x8 x9 : Int32}  (K : Cm ω κ l yX9_agenda cX9_agenda 10 d (some .int) post) (hdp : 1 ≤ d)
    (k1 : (x4 ≤ x9) → (x8 = 0) → V ω κ 179 [(0, .ref (ω.2.2.1 35)), (4, .int x4), (6, .int x6), (9, .int (0 : Int32))] [] σ)
    (k2 : (x4 ≤ x9) → ¬ (x8 = 0) → post (some (.int (-2 : Int32))) σ)
    (b3 : ¬ (x4 ≤ x9) → vp_in (x6 + x9) 320)
    (b5 : ¬ (x4 ≤ x9) → ¬ ((if ((σ.2.1 38 ((x6 + x9)).toNatClampNeg) < 0) then (0 : Int32) else (if ((σ.1 2246) ≤ (σ.2.1 38 ((x6 + x9)).toNatClampNeg)) then (0 : Int32) else (1 : Int32))) = 0) → (x8 = 0) → vp_in (x6 + x9) 320)
    (b6 : ¬ (x4 ≤ x9) → ¬ ((if ((σ.2.1 38 ((x6 + x9)).toNatClampNeg) < 0) then (0 : Int32) else (if ((σ.1 2246) ≤ (σ.2.1 38 ((x6 + x9)).toNatClampNeg)) then (0 : Int32) else (1 : Int32))) = 0) → vp_in (x6 + x9) 320)
    (k7 : ¬ (x4 ≤ x9) → ¬ ((if ((σ.2.1 38 ((x6 + x9)).toNatClampNeg) < 0) then (0 : Int32) else (if ((σ.1 2246) ≤ (σ.2.1 38 ((x6 + x9)).toNatClampNeg)) then (0 : Int32) else (1 : Int32))) = 0) → V ω κ 88 [(0, .ref (ω.2.2.1 35)), (4, .int x4), (6, .int x6), (7, .int (x7 ||| ((1 : Int32) <<< ((σ.2.1 38 ((x6 + x9)).toNatClampNeg) &&& 31)))), (8, .int (if (x8 = 0) then (if (((x7 >>> ((σ.2.1 38 ((x6 + x9)).toNatClampNeg) &&& 31)) &&& (1 : Int32)) = (1 : Int32)) then (1 : Int32) else (0 : Int32)) else (1 : Int32))), (9, .int (x9 + 1))] [] σ)
    (k8 : ¬ (x4 ≤ x9) → ((if ((σ.2.1 38 ((x6 + x9)).toNatClampNeg) < 0) then (0 : Int32) else (if ((σ.1 2246) ≤ (σ.2.1 38 ((x6 + x9)).toNatClampNeg)) then (0 : Int32) else (1 : Int32))) = 0) → post (some (.int (-1 : Int32))) σ) :
    V ω κ 88 [(0, .ref (ω.2.2.1 35)), (4, .int x4), (6, .int x6), (7, .int x7), (8, .int x8), (9, .int x9)] [] σ := by
  refine V_iload 5 K.1 dX9_agenda_88 rfl ?_
  refine V_iload 1 K.1 dX9_agenda_90 rfl ?_
  refine V_icmp_ge (tgt := 168) K.1 dX9_agenda_92 (by decide) (fun c92 => ?_) (fun c92 => ?_)
  · refine V_iload 4 K.1 dX9_agenda_168 rfl ?_
    refine V_if_eq (tgt := 176) K.1 dX9_agenda_170 (by decide) (fun c170 => ?_) (fun c170 => ?_)
    · refine V_iconst (v := 0) K.1 dX9_agenda_176 (by decide) ?_
      refine V_istore (L' := [(0, .ref (ω.2.2.1 35)), (4, .int x4), (6, .int x6), (7, .int x7), (8, .int x8), (9, .int (0 : Int32))]) K.1 dX9_agenda_177 (by decide) rfl ?_
      exact V_sub [0, 1, 2, 5] rfl (k1 c92 c170)
    · refine V_bipush (v := -2) K.1 dX9_agenda_173 (by decide) ?_
      exact V_iret K dX9_agenda_175 (k2 c92 c170)
  · refine V_aload_n 0 K.1 dX9_agenda_95 rfl rfl ?_
    refine V_aload_n 0 K.1 dX9_agenda_96 rfl rfl ?_
    refine V_get (v := .ref (ω.2.2.1 38)) K.1 dX9_agenda_97 rfl rfl fw_X9_16 rfl rfl ?_
    refine V_iload 2 K.1 dX9_agenda_100 rfl ?_
    refine V_iload 5 K.1 dX9_agenda_102 rfl ?_
    refine V_iadd K.1 dX9_agenda_104 ?_
    refine V_iaload (v := (σ.2.1 38 ((x6 + x9)).toNatClampNeg)) K.1 dX9_agenda_105 rfl (b3 c92) rfl ?_
    refine V_callV (d' := d - 1) (As := [.int (σ.2.1 38 ((x6 + x9)).toNatClampNeg)]) K.1 dX9_agenda_106 cw_X9_143 rfl rfl rfl (by omega) rfl (by simp [Value.category]) (m_X9_isMatter K.1.wf (by omega)) (go_I ?_)
    refine V_if_ne (tgt := 114) K.1 dX9_agenda_109 (by decide) (fun c109 => ?_) (fun c109 => ?_)
    · refine V_iload 4 K.1 dX9_agenda_114 rfl ?_
      refine V_join (J := 143) (S := []) (v := .int (if (x8 = 0) then (if (((x7 >>> ((σ.2.1 38 ((x6 + x9)).toNatClampNeg) &&& 31)) &&& (1 : Int32)) = (1 : Int32)) then (1 : Int32) else (0 : Int32)) else (1 : Int32))) (fun hJ4 => ?_) ?_
      · refine V_if_ne (tgt := 138) K.1 dX9_agenda_116 (by decide) (fun c116 => ?_) (fun c116 => ?_)
        · refine V_iconst (v := 1) K.1 dX9_agenda_138 (by decide) ?_
          refine V_goto (tgt := 143) K.1 dX9_agenda_139 (by decide) ?_
          exact V_top (if_neg c116) hJ4
        · refine V_iload 3 K.1 dX9_agenda_119 rfl ?_
          refine V_aload_n 0 K.1 dX9_agenda_121 rfl rfl ?_
          refine V_get (v := .ref (ω.2.2.1 38)) K.1 dX9_agenda_122 rfl rfl fw_X9_16 rfl rfl ?_
          refine V_iload 2 K.1 dX9_agenda_125 rfl ?_
          refine V_iload 5 K.1 dX9_agenda_127 rfl ?_
          refine V_iadd K.1 dX9_agenda_129 ?_
          refine V_iaload (v := (σ.2.1 38 ((x6 + x9)).toNatClampNeg)) K.1 dX9_agenda_130 rfl (b5 c92 c109 c116) rfl ?_
          refine V_ishr K.1 dX9_agenda_131 ?_
          refine V_iconst (v := 1) K.1 dX9_agenda_132 (by decide) ?_
          refine V_iand K.1 dX9_agenda_133 ?_
          refine V_iconst (v := 1) K.1 dX9_agenda_134 (by decide) ?_
          refine V_icmp_ne (tgt := 142) K.1 dX9_agenda_135 (by decide) (fun c135 => ?_) (fun c135 => ?_)
          · refine V_iconst (v := 0) K.1 dX9_agenda_142 (by decide) ?_
            exact V_top ((if_pos c116).trans (if_neg c135)) hJ4
          · refine V_iconst (v := 1) K.1 dX9_agenda_138 (by decide) ?_
            refine V_goto (tgt := 143) K.1 dX9_agenda_139 (by decide) ?_
            exact V_top ((if_pos c116).trans (if_pos c135)) hJ4
      refine V_istore (L' := [(0, .ref (ω.2.2.1 35)), (4, .int x4), (6, .int x6), (7, .int x7), (8, .int (if (x8 = 0) then (if (((x7 >>> ((σ.2.1 38 ((x6 + x9)).toNatClampNeg) &&& 31)) &&& (1 : Int32)) = (1 : Int32)) then (1 : Int32) else (0 : Int32)) else (1 : Int32))), (9, .int x9)]) K.1 dX9_agenda_143 (by decide) rfl ?_
      refine V_iload 3 K.1 dX9_agenda_145 rfl ?_
      refine V_iconst (v := 1) K.1 dX9_agenda_147 (by decide) ?_
      refine V_aload_n 0 K.1 dX9_agenda_148 rfl rfl ?_
      refine V_get (v := .ref (ω.2.2.1 38)) K.1 dX9_agenda_149 rfl rfl fw_X9_16 rfl rfl ?_
      refine V_iload 2 K.1 dX9_agenda_152 rfl ?_
      refine V_iload 5 K.1 dX9_agenda_154 rfl ?_
      refine V_iadd K.1 dX9_agenda_156 ?_
      refine V_iaload (v := (σ.2.1 38 ((x6 + x9)).toNatClampNeg)) K.1 dX9_agenda_157 rfl (b6 c92 c109) rfl ?_
      refine V_ishl K.1 dX9_agenda_158 ?_
      refine V_ior K.1 dX9_agenda_159 ?_
      refine V_istore (L' := [(0, .ref (ω.2.2.1 35)), (4, .int x4), (6, .int x6), (7, .int (x7 ||| ((1 : Int32) <<< ((σ.2.1 38 ((x6 + x9)).toNatClampNeg) &&& 31)))), (8, .int (if (x8 = 0) then (if (((x7 >>> ((σ.2.1 38 ((x6 + x9)).toNatClampNeg) &&& 31)) &&& (1 : Int32)) = (1 : Int32)) then (1 : Int32) else (0 : Int32)) else (1 : Int32))), (9, .int x9)]) K.1 dX9_agenda_160 (by decide) rfl ?_
      refine V_iinc (v := (x9 + 1)) (L' := [(0, .ref (ω.2.2.1 35)), (4, .int x4), (6, .int x6), (7, .int (x7 ||| ((1 : Int32) <<< ((σ.2.1 38 ((x6 + x9)).toNatClampNeg) &&& 31)))), (8, .int (if (x8 = 0) then (if (((x7 >>> ((σ.2.1 38 ((x6 + x9)).toNatClampNeg) &&& 31)) &&& (1 : Int32)) = (1 : Int32)) then (1 : Int32) else (0 : Int32)) else (1 : Int32))), (9, .int (x9 + 1))]) 5 K.1 dX9_agenda_162 rfl rfl (by decide) rfl ?_
      refine V_goto (tgt := 88) K.1 dX9_agenda_165 (by decide) ?_
      exact (k7 c92 c109)
    · refine V_iconst (v := -1) K.1 dX9_agenda_112 (by decide) ?_
      exact V_iret K dX9_agenda_113 (k8 c92 c109)
set_option maxRecDepth 20000 in
theorem R_X9_agenda_179 {ω : WT} {κ : KT} {l : Launch} {d : Nat} {post : Option Value → St → Prop} {σ : St} {x4 x6 x9 : Int32}  (K : Cm ω κ l yX9_agenda cX9_agenda 10 d (some .int) post)
    (k1 : (x4 ≤ x9) → post (some (.int x4)) (pS σ 2251 x4))
    (b2 : ¬ (x4 ≤ x9) → vp_in (x6 + x9) 320)
    (b3 : ¬ (x4 ≤ x9) → vp_in x9 6)
    (k4 : ¬ (x4 ≤ x9) → V ω κ 179 [(0, .ref (ω.2.2.1 35)), (4, .int x4), (6, .int x6), (9, .int (x9 + 1))] [] (pA σ 41 (x9).toNatClampNeg (σ.2.1 38 ((x6 + x9)).toNatClampNeg))) :
    V ω κ 179 [(0, .ref (ω.2.2.1 35)), (4, .int x4), (6, .int x6), (9, .int x9)] [] σ := by
  refine V_iload 3 K.1 dX9_agenda_179 rfl ?_
  refine V_iload 1 K.1 dX9_agenda_181 rfl ?_
  refine V_icmp_ge (tgt := 209) K.1 dX9_agenda_183 (by decide) (fun c183 => ?_) (fun c183 => ?_)
  · refine V_aload_n 0 K.1 dX9_agenda_209 rfl rfl ?_
    refine V_iload 1 K.1 dX9_agenda_210 rfl ?_
    refine V_putI (key := 2251) K.1 dX9_agenda_212 rfl rfl fw_X9_130 pw_X9_11 rfl rfl rfl rfl ?_
    refine V_iload 1 K.1 dX9_agenda_215 rfl ?_
    exact V_iret K dX9_agenda_217 (k1 c183)
  · refine V_aload_n 0 K.1 dX9_agenda_186 rfl rfl ?_
    refine V_get (v := .ref (ω.2.2.1 41)) K.1 dX9_agenda_187 rfl rfl fw_X9_25 rfl rfl ?_
    refine V_iload 3 K.1 dX9_agenda_190 rfl ?_
    refine V_aload_n 0 K.1 dX9_agenda_192 rfl rfl ?_
    refine V_get (v := .ref (ω.2.2.1 38)) K.1 dX9_agenda_193 rfl rfl fw_X9_16 rfl rfl ?_
    refine V_iload 2 K.1 dX9_agenda_196 rfl ?_
    refine V_iload 3 K.1 dX9_agenda_198 rfl ?_
    refine V_iadd K.1 dX9_agenda_200 ?_
    refine V_iaload (v := (σ.2.1 38 ((x6 + x9)).toNatClampNeg)) K.1 dX9_agenda_201 rfl (b2 c183) rfl ?_
    refine V_iastore K.1 dX9_agenda_202 rfl (b3 c183) ?_
    refine V_iinc (v := (x9 + 1)) (L' := [(0, .ref (ω.2.2.1 35)), (4, .int x4), (6, .int x6), (9, .int (x9 + 1))]) 3 K.1 dX9_agenda_203 rfl rfl (by decide) rfl ?_
    refine V_goto (tgt := 179) K.1 dX9_agenda_206 (by decide) ?_
    exact (k4 c183)
