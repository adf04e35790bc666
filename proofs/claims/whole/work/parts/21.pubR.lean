set_option maxRecDepth 20000 in
theorem R_X8_whyNotTaken_0 {ω : WT} {κ : KT} {l : Launch} {d : Nat} {post : Option Value → St → Prop} {σ : St} {x1 x2 x3 x4 : Int32}  (K : Cm ω κ l yX8_whyNotTaken cX8_whyNotTaken 6 d (some .int) post) (hdp : 1 ≤ d)
    (k1 : ¬ ((if (x1 < 0) then (0 : Int32) else (if ((4 : Int32) ≤ x1) then (0 : Int32) else (1 : Int32))) = 0) → ¬ ((if (x2 < 0) then (0 : Int32) else (if ((3 : Int32) ≤ x2) then (0 : Int32) else (1 : Int32))) = 0) → V ω κ 29 [(0, .ref (ω.2.2.1 0)), (2, .int x2), (3, .int x3), (4, .int x4)] [.int x1, .ref (ω.2.2.1 1)] (pS σ 9 (0 : Int32)))
    (k2 : ¬ ((if (x1 < 0) then (0 : Int32) else (if ((4 : Int32) ≤ x1) then (0 : Int32) else (1 : Int32))) = 0) → ((if (x2 < 0) then (0 : Int32) else (if ((3 : Int32) ≤ x2) then (0 : Int32) else (1 : Int32))) = 0) → post (some (.int (-2 : Int32))) (pS σ 9 (0 : Int32)))
    (k3 : ((if (x1 < 0) then (0 : Int32) else (if ((4 : Int32) ≤ x1) then (0 : Int32) else (1 : Int32))) = 0) → post (some (.int (-1 : Int32))) (pS σ 9 (0 : Int32))) :
    V ω κ 0 [(0, .ref (ω.2.2.1 0)), (1, .int x1), (2, .int x2), (3, .int x3), (4, .int x4)] [] σ := by
  refine V_aload_n 0 K.1 dX8_whyNotTaken_0 rfl rfl ?_
  refine V_iconst (v := 0) K.1 dX8_whyNotTaken_1 (by decide) ?_
  refine V_putI (key := 9) K.1 dX8_whyNotTaken_2 rfl rfl fw_X8_220 pw_X8_9 rfl rfl rfl rfl ?_
  refine V_iload_n 1 K.1 dX8_whyNotTaken_5 rfl rfl ?_
  refine V_callS (d' := d - 1) (As := [.int x1]) K.1 dX8_whyNotTaken_6 cw_X8_223 rfl (by omega) rfl (by simp [Value.category]) (m_X8_isSheet K.1.wf (by omega)) (go_I ?_)
  refine V_if_ne (tgt := 14) K.1 dX8_whyNotTaken_9 (by decide) (fun c9 => ?_) (fun c9 => ?_)
  · refine V_iload_n 2 K.1 dX8_whyNotTaken_14 rfl rfl ?_
    refine V_callS (d' := d - 1) (As := [.int x2]) K.1 dX8_whyNotTaken_15 cw_X8_226 rfl (by omega) rfl (by simp [Value.category]) (m_X8_isSort K.1.wf (by omega)) (go_I ?_)
    refine V_if_ne (tgt := 24) K.1 dX8_whyNotTaken_18 (by decide) (fun c18 => ?_) (fun c18 => ?_)
    · refine V_aload_n 0 K.1 dX8_whyNotTaken_24 rfl rfl ?_
      refine V_get (v := .ref (ω.2.2.1 1)) K.1 dX8_whyNotTaken_25 rfl rfl fw_X8_13 rfl rfl ?_
      refine V_iload_n 1 K.1 dX8_whyNotTaken_28 rfl rfl ?_
      exact V_sub [0, 2, 3, 4] rfl (k1 c9 c18)
    · refine V_bipush (v := -2) K.1 dX8_whyNotTaken_21 (by decide) ?_
      exact V_iret K dX8_whyNotTaken_23 (k2 c9 c18)
  · refine V_iconst (v := -1) K.1 dX8_whyNotTaken_12 (by decide) ?_
    exact V_iret K dX8_whyNotTaken_13 (k3 c9)
set_option maxRecDepth 20000 in
theorem R_X8_whyNotTaken_30 {ω : WT} {κ : KT} {l : Launch} {d : Nat} {post : Option Value → St → Prop} {σ : St} {x2 x3 x4 : Int32} {j : Nat} (hj : j < 4) (K : Cm ω κ l yX8_whyNotTaken cX8_whyNotTaken 6 d (some .int) post) (hdp : 1 ≤ d)
    (k1 : ((if ((σ.1 (64 * (2 + j) + 1)) = (-1 : Int32)) then (0 : Int32) else (1 : Int32)) = 0) → ¬ ((if ((σ.1 (64 * (2 + j) + 1)) = (-1 : Int32)) then (0 : Int32) else (1 : Int32)) = 0) → (0 ≤ x4) → ((if (x3 < 0) then (0 : Int32) else (if ((σ.1 (64 * (2 + j) + 1)) < x3) then (0 : Int32) else (if (x4 < 0) then (0 : Int32) else (if (((σ.1 (64 * (2 + j) + 1)) - x3) < x4) then (0 : Int32) else (1 : Int32))))) = 0) → post (some (.int ((-10 : Int32) - (3 : Int32)))) (pS σ 9 (3 : Int32)))
    (k2 : ((if ((σ.1 (64 * (2 + j) + 1)) = (-1 : Int32)) then (0 : Int32) else (1 : Int32)) = 0) → ¬ ((if ((σ.1 (64 * (2 + j) + 1)) = (-1 : Int32)) then (0 : Int32) else (1 : Int32)) = 0) → (0 ≤ x4) → ¬ ((if (x3 < 0) then (0 : Int32) else (if ((σ.1 (64 * (2 + j) + 1)) < x3) then (0 : Int32) else (if (x4 < 0) then (0 : Int32) else (if (((σ.1 (64 * (2 + j) + 1)) - x3) < x4) then (0 : Int32) else (1 : Int32))))) = 0) → post (some (.int (0 : Int32))) σ)
    (k3 : ((if ((σ.1 (64 * (2 + j) + 1)) = (-1 : Int32)) then (0 : Int32) else (1 : Int32)) = 0) → ¬ ((if ((σ.1 (64 * (2 + j) + 1)) = (-1 : Int32)) then (0 : Int32) else (1 : Int32)) = 0) → ¬ (0 ≤ x4) → post (some (.int ((-10 : Int32) - (4 : Int32)))) (pS σ 9 (4 : Int32)))
    (k4 : ((if ((σ.1 (64 * (2 + j) + 1)) = (-1 : Int32)) then (0 : Int32) else (1 : Int32)) = 0) → ((if ((σ.1 (64 * (2 + j) + 1)) = (-1 : Int32)) then (0 : Int32) else (1 : Int32)) = 0) → post (some (.int ((-10 : Int32) - (1 : Int32)))) (pS σ 9 (1 : Int32)))
    (k5 : ¬ ((if ((σ.1 (64 * (2 + j) + 1)) = (-1 : Int32)) then (0 : Int32) else (1 : Int32)) = 0) → ((σ.1 (64 * (2 + j) + 2)) = x2) → ¬ ((if ((σ.1 (64 * (2 + j) + 1)) = (-1 : Int32)) then (0 : Int32) else (1 : Int32)) = 0) → (0 ≤ x4) → ((if (x3 < 0) then (0 : Int32) else (if ((σ.1 (64 * (2 + j) + 1)) < x3) then (0 : Int32) else (if (x4 < 0) then (0 : Int32) else (if (((σ.1 (64 * (2 + j) + 1)) - x3) < x4) then (0 : Int32) else (1 : Int32))))) = 0) → post (some (.int ((-10 : Int32) - (3 : Int32)))) (pS σ 9 (3 : Int32)))
    (k6 : ¬ ((if ((σ.1 (64 * (2 + j) + 1)) = (-1 : Int32)) then (0 : Int32) else (1 : Int32)) = 0) → ((σ.1 (64 * (2 + j) + 2)) = x2) → ¬ ((if ((σ.1 (64 * (2 + j) + 1)) = (-1 : Int32)) then (0 : Int32) else (1 : Int32)) = 0) → (0 ≤ x4) → ¬ ((if (x3 < 0) then (0 : Int32) else (if ((σ.1 (64 * (2 + j) + 1)) < x3) then (0 : Int32) else (if (x4 < 0) then (0 : Int32) else (if (((σ.1 (64 * (2 + j) + 1)) - x3) < x4) then (0 : Int32) else (1 : Int32))))) = 0) → post (some (.int (0 : Int32))) σ)
    (k7 : ¬ ((if ((σ.1 (64 * (2 + j) + 1)) = (-1 : Int32)) then (0 : Int32) else (1 : Int32)) = 0) → ((σ.1 (64 * (2 + j) + 2)) = x2) → ¬ ((if ((σ.1 (64 * (2 + j) + 1)) = (-1 : Int32)) then (0 : Int32) else (1 : Int32)) = 0) → ¬ (0 ≤ x4) → post (some (.int ((-10 : Int32) - (4 : Int32)))) (pS σ 9 (4 : Int32)))
    (k8 : ¬ ((if ((σ.1 (64 * (2 + j) + 1)) = (-1 : Int32)) then (0 : Int32) else (1 : Int32)) = 0) → ((σ.1 (64 * (2 + j) + 2)) = x2) → ((if ((σ.1 (64 * (2 + j) + 1)) = (-1 : Int32)) then (0 : Int32) else (1 : Int32)) = 0) → post (some (.int ((-10 : Int32) - (1 : Int32)))) (pS σ 9 (1 : Int32)))
    (k9 : ¬ ((if ((σ.1 (64 * (2 + j) + 1)) = (-1 : Int32)) then (0 : Int32) else (1 : Int32)) = 0) → ¬ ((σ.1 (64 * (2 + j) + 2)) = x2) → post (some (.int ((-10 : Int32) - (2 : Int32)))) (pS σ 9 (2 : Int32))) :
    V ω κ 30 [(0, .ref (ω.2.2.1 0)), (2, .int x2), (3, .int x3), (4, .int x4)] [.ref (ω.2.2.1 (2 + j))] σ := by
  refine V_astore (L' := [(0, .ref (ω.2.2.1 0)), (2, .int x2), (3, .int x3), (4, .int x4), (5, .ref (ω.2.2.1 (2 + j)))]) K.1 dX8_whyNotTaken_30 (by decide) rfl ?_
  refine V_aload 4 K.1 dX8_whyNotTaken_32 rfl ?_
  refine V_callV (d' := d - 1) (As := []) K.1 dX8_whyNotTaken_34 cw_X8_235 (shO j hj) rfl rfl (by omega) rfl (by simp [Value.category]) (m_X6_hasRow hj K.1.wf (by omega)) (go_I ?_)
  refine V_if_eq (tgt := 55) K.1 dX8_whyNotTaken_37 (by decide) (fun c37 => ?_) (fun c37 => ?_)
  · refine V_aload 4 K.1 dX8_whyNotTaken_55 rfl ?_
    refine V_callV (d' := d - 1) (As := []) K.1 dX8_whyNotTaken_57 cw_X8_235 (shO j hj) rfl rfl (by omega) rfl (by simp [Value.category]) (m_X6_hasRow hj K.1.wf (by omega)) (go_I ?_)
    refine V_if_ne (tgt := 69) K.1 dX8_whyNotTaken_60 (by decide) (fun c60 => ?_) (fun c60 => ?_)
    · refine V_iload 3 K.1 dX8_whyNotTaken_69 rfl ?_
      refine V_if_ge (tgt := 80) K.1 dX8_whyNotTaken_71 (by decide) (fun c71 => ?_) (fun c71 => ?_)
      · refine V_aload 4 K.1 dX8_whyNotTaken_80 rfl ?_
        refine V_iload_n 2 K.1 dX8_whyNotTaken_82 rfl rfl ?_
        refine V_iload 3 K.1 dX8_whyNotTaken_83 rfl ?_
        refine V_callV (d' := d - 1) (As := [.int x3, .int x4]) K.1 dX8_whyNotTaken_85 cw_X8_241 (shO j hj) rfl rfl (by omega) rfl (by simp [Value.category]) (m_X6_hasCells hj K.1.wf (by omega)) (go_I ?_)
        refine V_if_eq (tgt := 95) K.1 dX8_whyNotTaken_88 (by decide) (fun c88 => ?_) (fun c88 => ?_)
        · refine V_aload_n 0 K.1 dX8_whyNotTaken_95 rfl rfl ?_
          refine V_iconst (v := 3) K.1 dX8_whyNotTaken_96 (by decide) ?_
          refine V_callV (d' := d - 1) (As := [.int (3 : Int32)]) K.1 dX8_whyNotTaken_97 cw_X8_229 rfl rfl rfl (by omega) rfl (by simp [Value.category]) (m_X8_failed K.1.wf (by omega)) (go_I ?_)
          exact V_iret K dX8_whyNotTaken_100 (k1 c37 c60 c71 c88)
        · refine V_iconst (v := 0) K.1 dX8_whyNotTaken_91 (by decide) ?_
          refine V_goto (tgt := 100) K.1 dX8_whyNotTaken_92 (by decide) ?_
          exact V_iret K dX8_whyNotTaken_100 (k2 c37 c60 c71 c88)
      · refine V_aload_n 0 K.1 dX8_whyNotTaken_74 rfl rfl ?_
        refine V_iconst (v := 4) K.1 dX8_whyNotTaken_75 (by decide) ?_
        refine V_callV (d' := d - 1) (As := [.int (4 : Int32)]) K.1 dX8_whyNotTaken_76 cw_X8_229 rfl rfl rfl (by omega) rfl (by simp [Value.category]) (m_X8_failed K.1.wf (by omega)) (go_I ?_)
        exact V_iret K dX8_whyNotTaken_79 (k3 c37 c60 c71)
    · refine V_aload_n 0 K.1 dX8_whyNotTaken_63 rfl rfl ?_
      refine V_iconst (v := 1) K.1 dX8_whyNotTaken_64 (by decide) ?_
      refine V_callV (d' := d - 1) (As := [.int (1 : Int32)]) K.1 dX8_whyNotTaken_65 cw_X8_229 rfl rfl rfl (by omega) rfl (by simp [Value.category]) (m_X8_failed K.1.wf (by omega)) (go_I ?_)
      exact V_iret K dX8_whyNotTaken_68 (k4 c37 c60)
  · refine V_aload 4 K.1 dX8_whyNotTaken_40 rfl ?_
    refine V_get (v := .int (σ.1 (64 * (2 + j) + 2))) K.1 dX8_whyNotTaken_42 (shO j hj) rfl fw_X8_250 rfl rfl ?_
    refine V_iload_n 1 K.1 dX8_whyNotTaken_45 rfl rfl ?_
    refine V_icmp_eq (tgt := 55) K.1 dX8_whyNotTaken_46 (by decide) (fun c46 => ?_) (fun c46 => ?_)
    · refine V_aload 4 K.1 dX8_whyNotTaken_55 rfl ?_
      refine V_callV (d' := d - 1) (As := []) K.1 dX8_whyNotTaken_57 cw_X8_235 (shO j hj) rfl rfl (by omega) rfl (by simp [Value.category]) (m_X6_hasRow hj K.1.wf (by omega)) (go_I ?_)
      refine V_if_ne (tgt := 69) K.1 dX8_whyNotTaken_60 (by decide) (fun c60 => ?_) (fun c60 => ?_)
      · refine V_iload 3 K.1 dX8_whyNotTaken_69 rfl ?_
        refine V_if_ge (tgt := 80) K.1 dX8_whyNotTaken_71 (by decide) (fun c71 => ?_) (fun c71 => ?_)
        · refine V_aload 4 K.1 dX8_whyNotTaken_80 rfl ?_
          refine V_iload_n 2 K.1 dX8_whyNotTaken_82 rfl rfl ?_
          refine V_iload 3 K.1 dX8_whyNotTaken_83 rfl ?_
          refine V_callV (d' := d - 1) (As := [.int x3, .int x4]) K.1 dX8_whyNotTaken_85 cw_X8_241 (shO j hj) rfl rfl (by omega) rfl (by simp [Value.category]) (m_X6_hasCells hj K.1.wf (by omega)) (go_I ?_)
          refine V_if_eq (tgt := 95) K.1 dX8_whyNotTaken_88 (by decide) (fun c88 => ?_) (fun c88 => ?_)
          · refine V_aload_n 0 K.1 dX8_whyNotTaken_95 rfl rfl ?_
            refine V_iconst (v := 3) K.1 dX8_whyNotTaken_96 (by decide) ?_
            refine V_callV (d' := d - 1) (As := [.int (3 : Int32)]) K.1 dX8_whyNotTaken_97 cw_X8_229 rfl rfl rfl (by omega) rfl (by simp [Value.category]) (m_X8_failed K.1.wf (by omega)) (go_I ?_)
            exact V_iret K dX8_whyNotTaken_100 (k5 c37 c46 c60 c71 c88)
          · refine V_iconst (v := 0) K.1 dX8_whyNotTaken_91 (by decide) ?_
            refine V_goto (tgt := 100) K.1 dX8_whyNotTaken_92 (by decide) ?_
            exact V_iret K dX8_whyNotTaken_100 (k6 c37 c46 c60 c71 c88)
        · refine V_aload_n 0 K.1 dX8_whyNotTaken_74 rfl rfl ?_
          refine V_iconst (v := 4) K.1 dX8_whyNotTaken_75 (by decide) ?_
          refine V_callV (d' := d - 1) (As := [.int (4 : Int32)]) K.1 dX8_whyNotTaken_76 cw_X8_229 rfl rfl rfl (by omega) rfl (by simp [Value.category]) (m_X8_failed K.1.wf (by omega)) (go_I ?_)
          exact V_iret K dX8_whyNotTaken_79 (k7 c37 c46 c60 c71)
      · refine V_aload_n 0 K.1 dX8_whyNotTaken_63 rfl rfl ?_
        refine V_iconst (v := 1) K.1 dX8_whyNotTaken_64 (by decide) ?_
        refine V_callV (d' := d - 1) (As := [.int (1 : Int32)]) K.1 dX8_whyNotTaken_65 cw_X8_229 rfl rfl rfl (by omega) rfl (by simp [Value.category]) (m_X8_failed K.1.wf (by omega)) (go_I ?_)
        exact V_iret K dX8_whyNotTaken_68 (k8 c37 c46 c60)
    · refine V_aload_n 0 K.1 dX8_whyNotTaken_49 rfl rfl ?_
      refine V_iconst (v := 2) K.1 dX8_whyNotTaken_50 (by decide) ?_
      refine V_callV (d' := d - 1) (As := [.int (2 : Int32)]) K.1 dX8_whyNotTaken_51 cw_X8_229 rfl rfl rfl (by omega) rfl (by simp [Value.category]) (m_X8_failed K.1.wf (by omega)) (go_I ?_)
      exact V_iret K dX8_whyNotTaken_54 (k9 c37 c46)
theorem A_X8_whyNotTaken_29 {ω : WT} {κ : KT} {l : Launch} {d : Nat} {post : Option Value → St → Prop} {σ : St} {x2 x3 x4 : Int32}  {j : Nat} (hj : j < 4) (K : Cm ω κ l yX8_whyNotTaken cX8_whyNotTaken 6 d (some .int) post)
    (kk : V ω κ 30 [(0, .ref (ω.2.2.1 0)), (2, .int x2), (3, .int x3), (4, .int x4)] [.ref (ω.2.2.1 (2 + j))] σ) : V ω κ 29 [(0, .ref (ω.2.2.1 0)), (2, .int x2), (3, .int x3), (4, .int x4)] [.int (nI j), .ref (ω.2.2.1 1)] σ := by
  refine V_aaload K.1 dX8_whyNotTaken_29 rfl (vp_in_nI hj (by omega)) ?_
  rw [nI_clamp (by omega)]
  exact kk
set_option maxRecDepth 20000 in
theorem R_X8_tellAsHonest_0 {ω : WT} {κ : KT} {l : Launch} {d : Nat} {post : Option Value → St → Prop} {σ : St} {x1 : Int32}  (K : Cm ω κ l yX8_tellAsHonest cX8_tellAsHonest 4 d (some .int) post) (hdp : 1 ≤ d)
    (k1 : V ω κ 9 [(0, .ref (ω.2.2.1 0)), (1, .int x1), (2, .int (0 : Int32)), (3, .int (0 : Int32))] [] (pS σ 8 (((31 : Int32) * (σ.1 8)) + (1 : Int32)))) :
    V ω κ 0 [(0, .ref (ω.2.2.1 0)), (1, .int x1)] [] σ := by
  refine V_aload_n 0 K.1 dX8_tellAsHonest_0 rfl rfl ?_
  refine V_iconst (v := 1) K.1 dX8_tellAsHonest_1 (by decide) ?_
  refine V_callV (d' := d - 1) (As := [.int (1 : Int32)]) K.1 dX8_tellAsHonest_2 cw_X8_271 rfl rfl rfl (by omega) rfl (by simp [Value.category]) (m_X8_leave K.1.wf (by omega)) (go_V ?_)
  refine V_iconst (v := 0) K.1 dX8_tellAsHonest_5 (by decide) ?_
  refine V_istore_n (L' := [(0, .ref (ω.2.2.1 0)), (1, .int x1), (2, .int (0 : Int32))]) K.1 dX8_tellAsHonest_6 rfl (by decide) rfl ?_
  refine V_iconst (v := 0) K.1 dX8_tellAsHonest_7 (by decide) ?_
  refine V_istore_n (L' := [(0, .ref (ω.2.2.1 0)), (1, .int x1), (2, .int (0 : Int32)), (3, .int (0 : Int32))]) K.1 dX8_tellAsHonest_8 rfl (by decide) rfl ?_
  exact k1
set_option maxRecDepth 20000 in
theorem R_X8_tellAsHonest_9 {ω : WT} {κ : KT} {l : Launch} {d : Nat} {post : Option Value → St → Prop} {σ : St} {x1 x2 x3 : Int32}  (K : Cm ω κ l yX8_tellAsHonest cX8_tellAsHonest 4 d (some .int) post) (hdp : 1 ≤ d)
    (k1 : ((σ.1 641) ≤ x3) → post (some (.int x2)) σ)
    (p2 : ¬ ((σ.1 641) ≤ x3) → vp_in x3 6)
    (k3 : ¬ ((σ.1 641) ≤ x3) → ((if ((((σ.2.1 12 (x3).toNatClampNeg) >>> (x1 &&& 31)) &&& (1 : Int32)) = 0) then (0 : Int32) else (1 : Int32)) = 0) → V ω κ 9 [(0, .ref (ω.2.2.1 0)), (1, .int x1), (2, .int x2), (3, .int (x3 + 1))] [] σ)
    (k4 : ¬ ((σ.1 641) ≤ x3) → ¬ ((if ((((σ.2.1 12 (x3).toNatClampNeg) >>> (x1 &&& 31)) &&& (1 : Int32)) = 0) then (0 : Int32) else (1 : Int32)) = 0) → V ω κ 9 [(0, .ref (ω.2.2.1 0)), (1, .int x1), (2, .int (x2 + 1)), (3, .int (x3 + 1))] [] σ) :
    V ω κ 9 [(0, .ref (ω.2.2.1 0)), (1, .int x1), (2, .int x2), (3, .int x3)] [] σ := by
  refine V_iload_n 3 K.1 dX8_tellAsHonest_9 rfl rfl ?_
  refine V_aload_n 0 K.1 dX8_tellAsHonest_10 rfl rfl ?_
  refine V_get (v := .ref (ω.2.2.1 10)) K.1 dX8_tellAsHonest_11 rfl rfl fw_X8_21 rfl rfl ?_
  refine V_get (v := .int (σ.1 641)) K.1 dX8_tellAsHonest_14 rfl rfl fw_X8_278 rfl rfl ?_
  refine V_icmp_ge (tgt := 41) K.1 dX8_tellAsHonest_17 (by decide) (fun c17 => ?_) (fun c17 => ?_)
  · refine V_iload_n 2 K.1 dX8_tellAsHonest_41 rfl rfl ?_
    exact V_iret K dX8_tellAsHonest_42 (k1 c17)
  · refine V_aload_n 0 K.1 dX8_tellAsHonest_20 rfl rfl ?_
    refine V_get (v := .ref (ω.2.2.1 10)) K.1 dX8_tellAsHonest_21 rfl rfl fw_X8_21 rfl rfl ?_
    refine V_iload_n 1 K.1 dX8_tellAsHonest_24 rfl rfl ?_
    refine V_iload_n 3 K.1 dX8_tellAsHonest_25 rfl rfl ?_
    refine V_callV (d' := d - 1) (As := [.int x1, .int x3]) K.1 dX8_tellAsHonest_26 cw_X8_100 rfl rfl rfl (by omega) rfl (by simp [Value.category]) (m_X7_wishesYes K.1.wf (by omega) (p2 c17)) (go_I ?_)
    refine V_if_eq (tgt := 35) K.1 dX8_tellAsHonest_29 (by decide) (fun c29 => ?_) (fun c29 => ?_)
    · refine V_iinc (v := (x3 + 1)) (L' := [(0, .ref (ω.2.2.1 0)), (1, .int x1), (2, .int x2), (3, .int (x3 + 1))]) 3 K.1 dX8_tellAsHonest_35 rfl rfl (by decide) rfl ?_
      refine V_goto (tgt := 9) K.1 dX8_tellAsHonest_38 (by decide) ?_
      exact (k3 c17 c29)
    · refine V_iinc (v := (x2 + 1)) (L' := [(0, .ref (ω.2.2.1 0)), (1, .int x1), (2, .int (x2 + 1)), (3, .int x3)]) 2 K.1 dX8_tellAsHonest_32 rfl rfl (by decide) rfl ?_
      refine V_iinc (v := (x3 + 1)) (L' := [(0, .ref (ω.2.2.1 0)), (1, .int x1), (2, .int (x2 + 1)), (3, .int (x3 + 1))]) 3 K.1 dX8_tellAsHonest_35 rfl rfl (by decide) rfl ?_
      refine V_goto (tgt := 9) K.1 dX8_tellAsHonest_38 (by decide) ?_
      exact (k4 c17 c29)
set_option maxRecDepth 20000 in
theorem R_X8_ofOne_0 {ω : WT} {κ : KT} {l : Launch} {d : Nat} {post : Option Value → St → Prop} {σ : St} {x1 x2 : Int32}  (K : Cm ω κ l yX8_ofOne cX8_ofOne 3 d (some .int) post) (hdp : 1 ≤ d)
    (p1 : ¬ ((if (x1 < 0) then (0 : Int32) else (if ((σ.1 640) ≤ x1) then (0 : Int32) else (1 : Int32))) = 0) → ¬ (x2 = (-1 : Int32)) → ¬ ((if (x2 < 0) then (0 : Int32) else (if ((σ.1 641) ≤ x2) then (0 : Int32) else (1 : Int32))) = 0) → vp_in x2 6)
    (k3 : ¬ ((if (x1 < 0) then (0 : Int32) else (if ((σ.1 640) ≤ x1) then (0 : Int32) else (1 : Int32))) = 0) → ¬ (x2 = (-1 : Int32)) → ¬ ((if (x2 < 0) then (0 : Int32) else (if ((σ.1 641) ≤ x2) then (0 : Int32) else (1 : Int32))) = 0) → post (some (.int (if ((if ((((σ.2.1 12 (x2).toNatClampNeg) >>> (x1 &&& 31)) &&& (1 : Int32)) = 0) then (0 : Int32) else (1 : Int32)) = 0) then (0 : Int32) else (1 : Int32)))) σ)
    (k4 : ¬ ((if (x1 < 0) then (0 : Int32) else (if ((σ.1 640) ≤ x1) then (0 : Int32) else (1 : Int32))) = 0) → ¬ (x2 = (-1 : Int32)) → ((if (x2 < 0) then (0 : Int32) else (if ((σ.1 641) ≤ x2) then (0 : Int32) else (1 : Int32))) = 0) → post (some (.int (-2 : Int32))) σ)
    (b5 : ¬ ((if (x1 < 0) then (0 : Int32) else (if ((σ.1 640) ≤ x1) then (0 : Int32) else (1 : Int32))) = 0) → (x2 = (-1 : Int32)) → vp_in x1 8)
    (k6 : ¬ ((if (x1 < 0) then (0 : Int32) else (if ((σ.1 640) ≤ x1) then (0 : Int32) else (1 : Int32))) = 0) → (x2 = (-1 : Int32)) → post (some (.int (σ.2.1 11 (x1).toNatClampNeg))) σ)
    (k7 : ((if (x1 < 0) then (0 : Int32) else (if ((σ.1 640) ≤ x1) then (0 : Int32) else (1 : Int32))) = 0) → post (some (.int (-1 : Int32))) σ) :
    V ω κ 0 [(0, .ref (ω.2.2.1 0)), (1, .int x1), (2, .int x2)] [] σ := by
  refine V_aload_n 0 K.1 dX8_ofOne_0 rfl rfl ?_
  refine V_get (v := .ref (ω.2.2.1 10)) K.1 dX8_ofOne_1 rfl rfl fw_X8_21 rfl rfl ?_
  refine V_iload_n 1 K.1 dX8_ofOne_4 rfl rfl ?_
  refine V_callV (d' := d - 1) (As := [.int x1]) K.1 dX8_ofOne_5 cw_X8_89 rfl rfl rfl (by omega) rfl (by simp [Value.category]) (m_X7_hasOne K.1.wf (by omega)) (go_I ?_)
  refine V_if_ne (tgt := 13) K.1 dX8_ofOne_8 (by decide) (fun c8 => ?_) (fun c8 => ?_)
  · refine V_iload_n 2 K.1 dX8_ofOne_13 rfl rfl ?_
    refine V_iconst (v := -1) K.1 dX8_ofOne_14 (by decide) ?_
    refine V_icmp_ne (tgt := 28) K.1 dX8_ofOne_15 (by decide) (fun c15 => ?_) (fun c15 => ?_)
    · refine V_aload_n 0 K.1 dX8_ofOne_28 rfl rfl ?_
      refine V_get (v := .ref (ω.2.2.1 10)) K.1 dX8_ofOne_29 rfl rfl fw_X8_21 rfl rfl ?_
      refine V_iload_n 2 K.1 dX8_ofOne_32 rfl rfl ?_
      refine V_callV (d' := d - 1) (As := [.int x2]) K.1 dX8_ofOne_33 cw_X8_97 rfl rfl rfl (by omega) rfl (by simp [Value.category]) (m_X7_hasMatter K.1.wf (by omega)) (go_I ?_)
      refine V_if_ne (tgt := 42) K.1 dX8_ofOne_36 (by decide) (fun c36 => ?_) (fun c36 => ?_)
      · refine V_aload_n 0 K.1 dX8_ofOne_42 rfl rfl ?_
        refine V_get (v := .ref (ω.2.2.1 10)) K.1 dX8_ofOne_43 rfl rfl fw_X8_21 rfl rfl ?_
        refine V_iload_n 1 K.1 dX8_ofOne_46 rfl rfl ?_
        refine V_iload_n 2 K.1 dX8_ofOne_47 rfl rfl ?_
        refine V_callV (d' := d - 1) (As := [.int x1, .int x2]) K.1 dX8_ofOne_48 cw_X8_100 rfl rfl rfl (by omega) rfl (by simp [Value.category]) (m_X7_wishesYes K.1.wf (by omega) (p1 c8 c15 c36)) (go_I ?_)
        refine V_join (J := 59) (S := []) (v := .int (if ((if ((((σ.2.1 12 (x2).toNatClampNeg) >>> (x1 &&& 31)) &&& (1 : Int32)) = 0) then (0 : Int32) else (1 : Int32)) = 0) then (0 : Int32) else (1 : Int32))) (fun hJ2 => ?_) ?_
        · refine V_if_eq (tgt := 58) K.1 dX8_ofOne_51 (by decide) (fun c51 => ?_) (fun c51 => ?_)
          · refine V_iconst (v := 0) K.1 dX8_ofOne_58 (by decide) ?_
            exact V_top (if_pos c51) hJ2
          · refine V_iconst (v := 1) K.1 dX8_ofOne_54 (by decide) ?_
            refine V_goto (tgt := 59) K.1 dX8_ofOne_55 (by decide) ?_
            exact V_top (if_neg c51) hJ2
        exact V_iret K dX8_ofOne_59 (k3 c8 c15 c36)
      · refine V_bipush (v := -2) K.1 dX8_ofOne_39 (by decide) ?_
        exact V_iret K dX8_ofOne_41 (k4 c8 c15 c36)
    · refine V_aload_n 0 K.1 dX8_ofOne_18 rfl rfl ?_
      refine V_get (v := .ref (ω.2.2.1 10)) K.1 dX8_ofOne_19 rfl rfl fw_X8_21 rfl rfl ?_
      refine V_get (v := .ref (ω.2.2.1 11)) K.1 dX8_ofOne_22 rfl rfl fw_X8_93 rfl rfl ?_
      refine V_iload_n 1 K.1 dX8_ofOne_25 rfl rfl ?_
      refine V_iaload (v := (σ.2.1 11 (x1).toNatClampNeg)) K.1 dX8_ofOne_26 rfl (b5 c8 c15) rfl ?_
      exact V_iret K dX8_ofOne_27 (k6 c8 c15)
  · refine V_iconst (v := -1) K.1 dX8_ofOne_11 (by decide) ?_
    exact V_iret K dX8_ofOne_12 (k7 c8)
set_option maxRecDepth 20000 in
theorem R_X9_ofOne_0 {ω : WT} {κ : KT} {l : Launch} {d : Nat} {post : Option Value → St → Prop} {σ : St} {x1 x2 : Int32}  (K : Cm ω κ l yX9_ofOne cX9_ofOne 3 d (some .int) post) (hdp : 1 ≤ d)
    (b2 : ¬ ((if (x1 < 0) then (0 : Int32) else (if ((σ.1 2245) ≤ x1) then (0 : Int32) else (1 : Int32))) = 0) → ¬ (x2 = (-1 : Int32)) → ¬ ((if (x2 < 0) then (0 : Int32) else (if ((σ.1 2246) ≤ x2) then (0 : Int32) else (1 : Int32))) = 0) → vp_in x1 8)
    (b3 : ¬ ((if (x1 < 0) then (0 : Int32) else (if ((σ.1 2245) ≤ x1) then (0 : Int32) else (1 : Int32))) = 0) → (x2 = (-1 : Int32)) → vp_in x1 8)
    (k4 : ¬ ((if (x1 < 0) then (0 : Int32) else (if ((σ.1 2245) ≤ x1) then (0 : Int32) else (1 : Int32))) = 0) → post (some (.int (if (x2 = (-1 : Int32)) then (σ.2.1 39 (x1).toNatClampNeg) else (if ((if (x2 < 0) then (0 : Int32) else (if ((σ.1 2246) ≤ x2) then (0 : Int32) else (1 : Int32))) = 0) then (-2 : Int32) else (((σ.2.1 40 (x1).toNatClampNeg) >>> (x2 &&& 31)) &&& (1 : Int32)))))) σ)
    (k5 : ((if (x1 < 0) then (0 : Int32) else (if ((σ.1 2245) ≤ x1) then (0 : Int32) else (1 : Int32))) = 0) → post (some (.int (-1 : Int32))) σ) :
    V ω κ 0 [(0, .ref (ω.2.2.1 35)), (1, .int x1), (2, .int x2)] [] σ := by
  refine V_aload_n 0 K.1 dX9_ofOne_0 rfl rfl ?_
  refine V_iload_n 1 K.1 dX9_ofOne_1 rfl rfl ?_
  refine V_callV (d' := d - 1) (As := [.int x1]) K.1 dX9_ofOne_2 cw_X9_140 rfl rfl rfl (by omega) rfl (by simp [Value.category]) (m_X9_isOne K.1.wf (by omega)) (go_I ?_)
  refine V_if_ne (tgt := 10) K.1 dX9_ofOne_5 (by decide) (fun c5 => ?_) (fun c5 => ?_)
  · refine V_iload_n 2 K.1 dX9_ofOne_10 rfl rfl ?_
    refine V_iconst (v := -1) K.1 dX9_ofOne_11 (by decide) ?_
    refine V_join (J := 47) (S := []) (v := .int (if (x2 = (-1 : Int32)) then (σ.2.1 39 (x1).toNatClampNeg) else (if ((if (x2 < 0) then (0 : Int32) else (if ((σ.1 2246) ≤ x2) then (0 : Int32) else (1 : Int32))) = 0) then (-2 : Int32) else (((σ.2.1 40 (x1).toNatClampNeg) >>> (x2 &&& 31)) &&& (1 : Int32))))) (fun hJ1 => ?_) ?_
    · refine V_icmp_ne (tgt := 24) K.1 dX9_ofOne_12 (by decide) (fun c12 => ?_) (fun c12 => ?_)
      · refine V_aload_n 0 K.1 dX9_ofOne_24 rfl rfl ?_
        refine V_iload_n 2 K.1 dX9_ofOne_25 rfl rfl ?_
        refine V_callV (d' := d - 1) (As := [.int x2]) K.1 dX9_ofOne_26 cw_X9_143 rfl rfl rfl (by omega) rfl (by simp [Value.category]) (m_X9_isMatter K.1.wf (by omega)) (go_I ?_)
        refine V_if_eq (tgt := 45) K.1 dX9_ofOne_29 (by decide) (fun c29 => ?_) (fun c29 => ?_)
        · refine V_bipush (v := -2) K.1 dX9_ofOne_45 (by decide) ?_
          exact V_top ((if_neg c12).trans (if_pos c29)) hJ1
        · refine V_aload_n 0 K.1 dX9_ofOne_32 rfl rfl ?_
          refine V_get (v := .ref (ω.2.2.1 40)) K.1 dX9_ofOne_33 rfl rfl fw_X9_22 rfl rfl ?_
          refine V_iload_n 1 K.1 dX9_ofOne_36 rfl rfl ?_
          refine V_iaload (v := (σ.2.1 40 (x1).toNatClampNeg)) K.1 dX9_ofOne_37 rfl (b2 c5 c12 c29) rfl ?_
          refine V_iload_n 2 K.1 dX9_ofOne_38 rfl rfl ?_
          refine V_ishr K.1 dX9_ofOne_39 ?_
          refine V_iconst (v := 1) K.1 dX9_ofOne_40 (by decide) ?_
          refine V_iand K.1 dX9_ofOne_41 ?_
          refine V_goto (tgt := 47) K.1 dX9_ofOne_42 (by decide) ?_
          exact V_top ((if_neg c12).trans (if_neg c29)) hJ1
      · refine V_aload_n 0 K.1 dX9_ofOne_15 rfl rfl ?_
        refine V_get (v := .ref (ω.2.2.1 39)) K.1 dX9_ofOne_16 rfl rfl fw_X9_19 rfl rfl ?_
        refine V_iload_n 1 K.1 dX9_ofOne_19 rfl rfl ?_
        refine V_iaload (v := (σ.2.1 39 (x1).toNatClampNeg)) K.1 dX9_ofOne_20 rfl (b3 c5 c12) rfl ?_
        refine V_goto (tgt := 47) K.1 dX9_ofOne_21 (by decide) ?_
        exact V_top (if_pos c12) hJ1
    exact V_iret K dX9_ofOne_47 (k4 c5)
  · refine V_iconst (v := -1) K.1 dX9_ofOne_8 (by decide) ?_
    exact V_iret K dX9_ofOne_9 (k5 c5)
set_option maxRecDepth 20000 in
theorem R_X8_wish_0 {ω : WT} {κ : KT} {l : Launch} {d : Nat} {post : Option Value → St → Prop} {σ : St} {x1 x2 x3 : Int32}  (K : Cm ω κ l yX8_wish cX8_wish 4 d (some .int) post) (hdp : 1 ≤ d)
    (k1 : ((if (x1 < 0) then (0 : Int32) else (if ((σ.1 640) ≤ x1) then (0 : Int32) else (1 : Int32))) = 0) → post (some (.int (-1 : Int32))) σ)
    (p2 : ¬ ((if (x1 < 0) then (0 : Int32) else (if ((σ.1 640) ≤ x1) then (0 : Int32) else (1 : Int32))) = 0) → ¬ ((if (x2 < 0) then (0 : Int32) else (if ((σ.1 641) ≤ x2) then (0 : Int32) else (1 : Int32))) = 0) → vp_in x2 6)
    (b3 : ¬ ((if (x1 < 0) then (0 : Int32) else (if ((σ.1 640) ≤ x1) then (0 : Int32) else (1 : Int32))) = 0) → ¬ ((if (x2 < 0) then (0 : Int32) else (if ((σ.1 641) ≤ x2) then (0 : Int32) else (1 : Int32))) = 0) → ¬ ((if ((((σ.2.1 12 (x2).toNatClampNeg) >>> (x1 &&& 31)) &&& (1 : Int32)) = 0) then (0 : Int32) else (1 : Int32)) = x3) → vp_in x2 6)
    (b4 : ¬ ((if (x1 < 0) then (0 : Int32) else (if ((σ.1 640) ≤ x1) then (0 : Int32) else (1 : Int32))) = 0) → ¬ ((if (x2 < 0) then (0 : Int32) else (if ((σ.1 641) ≤ x2) then (0 : Int32) else (1 : Int32))) = 0) → ¬ ((if ((((σ.2.1 12 (x2).toNatClampNeg) >>> (x1 &&& 31)) &&& (1 : Int32)) = 0) then (0 : Int32) else (1 : Int32)) = x3) → vp_in x2 6)
    (k5 : ¬ ((if (x1 < 0) then (0 : Int32) else (if ((σ.1 640) ≤ x1) then (0 : Int32) else (1 : Int32))) = 0) → ¬ ((if (x2 < 0) then (0 : Int32) else (if ((σ.1 641) ≤ x2) then (0 : Int32) else (1 : Int32))) = 0) → ¬ ((if ((((σ.2.1 12 (x2).toNatClampNeg) >>> (x1 &&& 31)) &&& (1 : Int32)) = 0) then (0 : Int32) else (1 : Int32)) = x3) → post (some (.int (1 : Int32))) (pA σ 12 (x2).toNatClampNeg ((σ.2.1 12 (x2).toNatClampNeg) ^^^ ((1 : Int32) <<< (x1 &&& 31)))))
    (k6 : ¬ ((if (x1 < 0) then (0 : Int32) else (if ((σ.1 640) ≤ x1) then (0 : Int32) else (1 : Int32))) = 0) → ¬ ((if (x2 < 0) then (0 : Int32) else (if ((σ.1 641) ≤ x2) then (0 : Int32) else (1 : Int32))) = 0) → ((if ((((σ.2.1 12 (x2).toNatClampNeg) >>> (x1 &&& 31)) &&& (1 : Int32)) = 0) then (0 : Int32) else (1 : Int32)) = x3) → post (some (.int (0 : Int32))) σ)
    (k7 : ¬ ((if (x1 < 0) then (0 : Int32) else (if ((σ.1 640) ≤ x1) then (0 : Int32) else (1 : Int32))) = 0) → ((if (x2 < 0) then (0 : Int32) else (if ((σ.1 641) ≤ x2) then (0 : Int32) else (1 : Int32))) = 0) → post (some (.int (-1 : Int32))) σ) :
    V ω κ 0 [(0, .ref (ω.2.2.1 0)), (1, .int x1), (2, .int x2), (3, .int x3)] [] σ := by
  refine V_aload_n 0 K.1 dX8_wish_0 rfl rfl ?_
  refine V_get (v := .ref (ω.2.2.1 10)) K.1 dX8_wish_1 rfl rfl fw_X8_21 rfl rfl ?_
  refine V_iload_n 1 K.1 dX8_wish_4 rfl rfl ?_
  refine V_callV (d' := d - 1) (As := [.int x1]) K.1 dX8_wish_5 cw_X8_89 rfl rfl rfl (by omega) rfl (by simp [Value.category]) (m_X7_hasOne K.1.wf (by omega)) (go_I ?_)
  refine V_if_eq (tgt := 22) K.1 dX8_wish_8 (by decide) (fun c8 => ?_) (fun c8 => ?_)
  · refine V_iconst (v := -1) K.1 dX8_wish_22 (by decide) ?_
    exact V_iret K dX8_wish_23 (k1 c8)
  · refine V_aload_n 0 K.1 dX8_wish_11 rfl rfl ?_
    refine V_get (v := .ref (ω.2.2.1 10)) K.1 dX8_wish_12 rfl rfl fw_X8_21 rfl rfl ?_
    refine V_iload_n 2 K.1 dX8_wish_15 rfl rfl ?_
    refine V_callV (d' := d - 1) (As := [.int x2]) K.1 dX8_wish_16 cw_X8_97 rfl rfl rfl (by omega) rfl (by simp [Value.category]) (m_X7_hasMatter K.1.wf (by omega)) (go_I ?_)
    refine V_if_ne (tgt := 24) K.1 dX8_wish_19 (by decide) (fun c19 => ?_) (fun c19 => ?_)
    · refine V_aload_n 0 K.1 dX8_wish_24 rfl rfl ?_
      refine V_get (v := .ref (ω.2.2.1 10)) K.1 dX8_wish_25 rfl rfl fw_X8_21 rfl rfl ?_
      refine V_iload_n 1 K.1 dX8_wish_28 rfl rfl ?_
      refine V_iload_n 2 K.1 dX8_wish_29 rfl rfl ?_
      refine V_callV (d' := d - 1) (As := [.int x1, .int x2]) K.1 dX8_wish_30 cw_X8_100 rfl rfl rfl (by omega) rfl (by simp [Value.category]) (m_X7_wishesYes K.1.wf (by omega) (p2 c8 c19)) (go_I ?_)
      refine V_iload_n 3 K.1 dX8_wish_33 rfl rfl ?_
      refine V_icmp_ne (tgt := 39) K.1 dX8_wish_34 (by decide) (fun c34 => ?_) (fun c34 => ?_)
      · refine V_aload_n 0 K.1 dX8_wish_39 rfl rfl ?_
        refine V_get (v := .ref (ω.2.2.1 10)) K.1 dX8_wish_40 rfl rfl fw_X8_21 rfl rfl ?_
        refine V_get (v := .ref (ω.2.2.1 12)) K.1 dX8_wish_43 rfl rfl fw_X8_104 rfl rfl ?_
        refine V_iload_n 2 K.1 dX8_wish_46 rfl rfl ?_
        refine V_dup2 K.1 dX8_wish_47 rfl rfl ?_
        refine V_iaload (v := (σ.2.1 12 (x2).toNatClampNeg)) K.1 dX8_wish_48 rfl (b3 c8 c19 c34) rfl ?_
        refine V_iconst (v := 1) K.1 dX8_wish_49 (by decide) ?_
        refine V_iload_n 1 K.1 dX8_wish_50 rfl rfl ?_
        refine V_ishl K.1 dX8_wish_51 ?_
        refine V_ixor K.1 dX8_wish_52 ?_
        refine V_iastore K.1 dX8_wish_53 rfl (b4 c8 c19 c34) ?_
        refine V_iconst (v := 1) K.1 dX8_wish_54 (by decide) ?_
        exact V_iret K dX8_wish_55 (k5 c8 c19 c34)
      · refine V_iconst (v := 0) K.1 dX8_wish_37 (by decide) ?_
        exact V_iret K dX8_wish_38 (k6 c8 c19 c34)
    · refine V_iconst (v := -1) K.1 dX8_wish_22 (by decide) ?_
      exact V_iret K dX8_wish_23 (k7 c8 c19)
set_option maxRecDepth 20000 in
theorem R_X9_wish_0 {ω : WT} {κ : KT} {l : Launch} {d : Nat} {post : Option Value → St → Prop} {σ : St} {x1 x2 x3 : Int32}  (K : Cm ω κ l yX9_wish cX9_wish 6 d (some .int) post) (hdp : 1 ≤ d)
    (k1 : ((if (x1 < 0) then (0 : Int32) else (if ((σ.1 2245) ≤ x1) then (0 : Int32) else (1 : Int32))) = 0) → post (some (.int (-1 : Int32))) σ)
    (b2 : ¬ ((if (x1 < 0) then (0 : Int32) else (if ((σ.1 2245) ≤ x1) then (0 : Int32) else (1 : Int32))) = 0) → ¬ ((if (x2 < 0) then (0 : Int32) else (if ((σ.1 2246) ≤ x2) then (0 : Int32) else (1 : Int32))) = 0) → vp_in x1 8)
    (b4 : ¬ ((if (x1 < 0) then (0 : Int32) else (if ((σ.1 2245) ≤ x1) then (0 : Int32) else (1 : Int32))) = 0) → ¬ ((if (x2 < 0) then (0 : Int32) else (if ((σ.1 2246) ≤ x2) then (0 : Int32) else (1 : Int32))) = 0) → vp_in x1 8)
    (b5 : ¬ ((if (x1 < 0) then (0 : Int32) else (if ((σ.1 2245) ≤ x1) then (0 : Int32) else (1 : Int32))) = 0) → ¬ ((if (x2 < 0) then (0 : Int32) else (if ((σ.1 2246) ≤ x2) then (0 : Int32) else (1 : Int32))) = 0) → vp_in x1 8)
    (k7 : ¬ ((if (x1 < 0) then (0 : Int32) else (if ((σ.1 2245) ≤ x1) then (0 : Int32) else (1 : Int32))) = 0) → ¬ ((if (x2 < 0) then (0 : Int32) else (if ((σ.1 2246) ≤ x2) then (0 : Int32) else (1 : Int32))) = 0) → post (some (.int (if (((pA σ 40 (x1).toNatClampNeg (if (x3 = 0) then ((σ.2.1 40 (x1).toNatClampNeg) &&& ((63 : Int32) - ((1 : Int32) <<< (x2 &&& 31)))) else ((σ.2.1 40 (x1).toNatClampNeg) ||| ((1 : Int32) <<< (x2 &&& 31))))).2.1 40 (x1).toNatClampNeg) = (σ.2.1 40 (x1).toNatClampNeg)) then (0 : Int32) else (1 : Int32)))) (pA σ 40 (x1).toNatClampNeg (if (x3 = 0) then ((σ.2.1 40 (x1).toNatClampNeg) &&& ((63 : Int32) - ((1 : Int32) <<< (x2 &&& 31)))) else ((σ.2.1 40 (x1).toNatClampNeg) ||| ((1 : Int32) <<< (x2 &&& 31))))))
    (k8 : ¬ ((if (x1 < 0) then (0 : Int32) else (if ((σ.1 2245) ≤ x1) then (0 : Int32) else (1 : Int32))) = 0) → ((if (x2 < 0) then (0 : Int32) else (if ((σ.1 2246) ≤ x2) then (0 : Int32) else (1 : Int32))) = 0) → post (some (.int (-1 : Int32))) σ) :
    V ω κ 0 [(0, .ref (ω.2.2.1 35)), (1, .int x1), (2, .int x2), (3, .int x3)] [] σ := by
  refine V_aload_n 0 K.1 dX9_wish_0 rfl rfl ?_
  refine V_iload_n 1 K.1 dX9_wish_1 rfl rfl ?_
  refine V_callV (d' := d - 1) (As := [.int x1]) K.1 dX9_wish_2 cw_X9_140 rfl rfl rfl (by omega) rfl (by simp [Value.category]) (m_X9_isOne K.1.wf (by omega)) (go_I ?_)
  refine V_if_eq (tgt := 16) K.1 dX9_wish_5 (by decide) (fun c5 => ?_) (fun c5 => ?_)
  · refine V_iconst (v := -1) K.1 dX9_wish_16 (by decide) ?_
    exact V_iret K dX9_wish_17 (k1 c5)
  · refine V_aload_n 0 K.1 dX9_wish_8 rfl rfl ?_
    refine V_iload_n 2 K.1 dX9_wish_9 rfl rfl ?_
    refine V_callV (d' := d - 1) (As := [.int x2]) K.1 dX9_wish_10 cw_X9_143 rfl rfl rfl (by omega) rfl (by simp [Value.category]) (m_X9_isMatter K.1.wf (by omega)) (go_I ?_)
    refine V_if_ne (tgt := 18) K.1 dX9_wish_13 (by decide) (fun c13 => ?_) (fun c13 => ?_)
    · refine V_aload_n 0 K.1 dX9_wish_18 rfl rfl ?_
      refine V_get (v := .ref (ω.2.2.1 40)) K.1 dX9_wish_19 rfl rfl fw_X9_22 rfl rfl ?_
      refine V_iload_n 1 K.1 dX9_wish_22 rfl rfl ?_
      refine V_iaload (v := (σ.2.1 40 (x1).toNatClampNeg)) K.1 dX9_wish_23 rfl (b2 c5 c13) rfl ?_
      refine V_istore (L' := [(0, .ref (ω.2.2.1 35)), (1, .int x1), (2, .int x2), (3, .int x3), (4, .int (σ.2.1 40 (x1).toNatClampNeg))]) K.1 dX9_wish_24 (by decide) rfl ?_
      refine V_iconst (v := 1) K.1 dX9_wish_26 (by decide) ?_
      refine V_iload_n 2 K.1 dX9_wish_27 rfl rfl ?_
      refine V_ishl K.1 dX9_wish_28 ?_
      refine V_istore (L' := [(0, .ref (ω.2.2.1 35)), (1, .int x1), (2, .int x2), (3, .int x3), (4, .int (σ.2.1 40 (x1).toNatClampNeg)), (5, .int ((1 : Int32) <<< (x2 &&& 31)))]) K.1 dX9_wish_29 (by decide) rfl ?_
      refine V_aload_n 0 K.1 dX9_wish_31 rfl rfl ?_
      refine V_get (v := .ref (ω.2.2.1 40)) K.1 dX9_wish_32 rfl rfl fw_X9_22 rfl rfl ?_
      refine V_iload_n 1 K.1 dX9_wish_35 rfl rfl ?_
      refine V_iload_n 3 K.1 dX9_wish_36 rfl rfl ?_
      refine V_join (J := 56) (S := [.int x1, .ref (ω.2.2.1 40)]) (v := .int (if (x3 = 0) then ((σ.2.1 40 (x1).toNatClampNeg) &&& ((63 : Int32) - ((1 : Int32) <<< (x2 &&& 31)))) else ((σ.2.1 40 (x1).toNatClampNeg) ||| ((1 : Int32) <<< (x2 &&& 31))))) (fun hJ3 => ?_) ?_
      · refine V_if_eq (tgt := 48) K.1 dX9_wish_37 (by decide) (fun c37 => ?_) (fun c37 => ?_)
        · refine V_iload 4 K.1 dX9_wish_48 rfl ?_
          refine V_bipush (v := 63) K.1 dX9_wish_50 (by decide) ?_
          refine V_iload 5 K.1 dX9_wish_52 rfl ?_
          refine V_isub K.1 dX9_wish_54 ?_
          refine V_iand K.1 dX9_wish_55 ?_
          exact V_top (if_pos c37) hJ3
        · refine V_iload 4 K.1 dX9_wish_40 rfl ?_
          refine V_iload 5 K.1 dX9_wish_42 rfl ?_
          refine V_ior K.1 dX9_wish_44 ?_
          refine V_goto (tgt := 56) K.1 dX9_wish_45 (by decide) ?_
          exact V_top (if_neg c37) hJ3
      refine V_iastore K.1 dX9_wish_56 rfl (b4 c5 c13) ?_
      refine V_aload_n 0 K.1 dX9_wish_57 rfl rfl ?_
      refine V_get (v := .ref (ω.2.2.1 40)) K.1 dX9_wish_58 rfl rfl fw_X9_22 rfl rfl ?_
      refine V_iload_n 1 K.1 dX9_wish_61 rfl rfl ?_
      refine V_iaload (v := ((pA σ 40 (x1).toNatClampNeg (if (x3 = 0) then ((σ.2.1 40 (x1).toNatClampNeg) &&& ((63 : Int32) - ((1 : Int32) <<< (x2 &&& 31)))) else ((σ.2.1 40 (x1).toNatClampNeg) ||| ((1 : Int32) <<< (x2 &&& 31))))).2.1 40 (x1).toNatClampNeg)) K.1 dX9_wish_62 rfl (b5 c5 c13) rfl ?_
      refine V_iload 4 K.1 dX9_wish_63 rfl ?_
      refine V_join (J := 73) (S := []) (v := .int (if (((pA σ 40 (x1).toNatClampNeg (if (x3 = 0) then ((σ.2.1 40 (x1).toNatClampNeg) &&& ((63 : Int32) - ((1 : Int32) <<< (x2 &&& 31)))) else ((σ.2.1 40 (x1).toNatClampNeg) ||| ((1 : Int32) <<< (x2 &&& 31))))).2.1 40 (x1).toNatClampNeg) = (σ.2.1 40 (x1).toNatClampNeg)) then (0 : Int32) else (1 : Int32))) (fun hJ6 => ?_) ?_
      · refine V_icmp_ne (tgt := 72) K.1 dX9_wish_65 (by decide) (fun c65 => ?_) (fun c65 => ?_)
        · refine V_iconst (v := 1) K.1 dX9_wish_72 (by decide) ?_
          exact V_top (if_neg c65) hJ6
        · refine V_iconst (v := 0) K.1 dX9_wish_68 (by decide) ?_
          refine V_goto (tgt := 73) K.1 dX9_wish_69 (by decide) ?_
          exact V_top (if_pos c65) hJ6
      exact V_iret K dX9_wish_73 (k7 c5 c13)
    · refine V_iconst (v := -1) K.1 dX9_wish_16 (by decide) ?_
      exact V_iret K dX9_wish_17 (k8 c5 c13)
set_option maxRecDepth 20000 in
theorem R_X8_measure_0 {ω : WT} {κ : KT} {l : Launch} {d : Nat} {post : Option Value → St → Prop} {σ : St} {x1 : Int32}  (K : Cm ω κ l yX8_measure cX8_measure 3 d (some .int) post) (hdp : 1 ≤ d)
    (k1 : (x1 < 0) → post (some (.int (-2 : Int32))) σ)
    (k2 : ¬ (x1 < 0) → (x1 < (4 : Int32)) → ¬ ((if ((σ.1 640) ≤ 0) then (0 : Int32) else (1 : Int32)) = 0) → post (some (.int (σ.1 642))) (pS σ 642 x1))
    (k3 : ¬ (x1 < 0) → (x1 < (4 : Int32)) → ((if ((σ.1 640) ≤ 0) then (0 : Int32) else (1 : Int32)) = 0) → post (some (.int (-3 : Int32))) σ)
    (k4 : ¬ (x1 < 0) → ¬ (x1 < (4 : Int32)) → post (some (.int (-2 : Int32))) σ) :
    V ω κ 0 [(0, .ref (ω.2.2.1 0)), (1, .int x1)] [] σ := by
  refine V_iload_n 1 K.1 dX8_measure_0 rfl rfl ?_
  refine V_if_lt (tgt := 9) K.1 dX8_measure_1 (by decide) (fun c1 => ?_) (fun c1 => ?_)
  · refine V_bipush (v := -2) K.1 dX8_measure_9 (by decide) ?_
    exact V_iret K dX8_measure_11 (k1 c1)
  · refine V_iload_n 1 K.1 dX8_measure_4 rfl rfl ?_
    refine V_iconst (v := 4) K.1 dX8_measure_5 (by decide) ?_
    refine V_icmp_lt (tgt := 12) K.1 dX8_measure_6 (by decide) (fun c6 => ?_) (fun c6 => ?_)
    · refine V_aload_n 0 K.1 dX8_measure_12 rfl rfl ?_
      refine V_get (v := .ref (ω.2.2.1 10)) K.1 dX8_measure_13 rfl rfl fw_X8_21 rfl rfl ?_
      refine V_callV (d' := d - 1) (As := []) K.1 dX8_measure_16 cw_X8_107 rfl rfl rfl (by omega) rfl (by simp [Value.category]) (m_X7_stands K.1.wf (by omega)) (go_I ?_)
      refine V_if_ne (tgt := 25) K.1 dX8_measure_19 (by decide) (fun c19 => ?_) (fun c19 => ?_)
      · refine V_aload_n 0 K.1 dX8_measure_25 rfl rfl ?_
        refine V_get (v := .ref (ω.2.2.1 10)) K.1 dX8_measure_26 rfl rfl fw_X8_21 rfl rfl ?_
        refine V_get (v := .int (σ.1 642)) K.1 dX8_measure_29 rfl rfl fw_X8_111 rfl rfl ?_
        refine V_istore_n (L' := [(0, .ref (ω.2.2.1 0)), (1, .int x1), (2, .int (σ.1 642))]) K.1 dX8_measure_32 rfl (by decide) rfl ?_
        refine V_aload_n 0 K.1 dX8_measure_33 rfl rfl ?_
        refine V_get (v := .ref (ω.2.2.1 10)) K.1 dX8_measure_34 rfl rfl fw_X8_21 rfl rfl ?_
        refine V_iload_n 1 K.1 dX8_measure_37 rfl rfl ?_
        refine V_putI (key := 642) K.1 dX8_measure_38 rfl rfl fw_X8_111 pw_X7_2 rfl rfl rfl rfl ?_
        refine V_iload_n 2 K.1 dX8_measure_41 rfl rfl ?_
        exact V_iret K dX8_measure_42 (k2 c1 c6 c19)
      · refine V_bipush (v := -3) K.1 dX8_measure_22 (by decide) ?_
        exact V_iret K dX8_measure_24 (k3 c1 c6 c19)
    · refine V_bipush (v := -2) K.1 dX8_measure_9 (by decide) ?_
      exact V_iret K dX8_measure_11 (k4 c1 c6)
set_option maxRecDepth 20000 in
theorem R_X9_measure_0 {ω : WT} {κ : KT} {l : Launch} {d : Nat} {post : Option Value → St → Prop} {σ : St} {x1 : Int32}  (K : Cm ω κ l yX9_measure cX9_measure 3 d (some .int) post) (hdp : 1 ≤ d)
    (k1 : ¬ ((if (x1 < (0 : Int32)) then (0 : Int32) else (if ((3 : Int32) < x1) then (0 : Int32) else (1 : Int32))) = 0) → ¬ ((if ((σ.1 2245) ≤ 0) then (0 : Int32) else (1 : Int32)) = 0) → post (some (.int (σ.1 2249))) (pS σ 2249 x1))
    (k2 : ¬ ((if (x1 < (0 : Int32)) then (0 : Int32) else (if ((3 : Int32) < x1) then (0 : Int32) else (1 : Int32))) = 0) → ((if ((σ.1 2245) ≤ 0) then (0 : Int32) else (1 : Int32)) = 0) → post (some (.int (-3 : Int32))) σ)
    (k3 : ((if (x1 < (0 : Int32)) then (0 : Int32) else (if ((3 : Int32) < x1) then (0 : Int32) else (1 : Int32))) = 0) → post (some (.int (-2 : Int32))) σ) :
    V ω κ 0 [(0, .ref (ω.2.2.1 35)), (1, .int x1)] [] σ := by
  refine V_iload_n 1 K.1 dX9_measure_0 rfl rfl ?_
  refine V_iconst (v := 0) K.1 dX9_measure_1 (by decide) ?_
  refine V_iconst (v := 3) K.1 dX9_measure_2 (by decide) ?_
  refine V_callS (d' := d - 1) (As := [.int x1, .int (0 : Int32), .int (3 : Int32)]) K.1 dX9_measure_3 cw_X9_87 rfl (by omega) rfl (by simp [Value.category]) (m_X9_within K.1.wf (by omega)) (go_I ?_)
  refine V_if_ne (tgt := 12) K.1 dX9_measure_6 (by decide) (fun c6 => ?_) (fun c6 => ?_)
  · refine V_aload_n 0 K.1 dX9_measure_12 rfl rfl ?_
    refine V_callV (d' := d - 1) (As := []) K.1 dX9_measure_13 cw_X9_146 rfl rfl rfl (by omega) rfl (by simp [Value.category]) (m_X9_isTown K.1.wf (by omega)) (go_I ?_)
    refine V_if_ne (tgt := 22) K.1 dX9_measure_16 (by decide) (fun c16 => ?_) (fun c16 => ?_)
    · refine V_aload_n 0 K.1 dX9_measure_22 rfl rfl ?_
      refine V_get (v := .int (σ.1 2249)) K.1 dX9_measure_23 rfl rfl fw_X9_124 rfl rfl ?_
      refine V_istore_n (L' := [(0, .ref (ω.2.2.1 35)), (1, .int x1), (2, .int (σ.1 2249))]) K.1 dX9_measure_26 rfl (by decide) rfl ?_
      refine V_aload_n 0 K.1 dX9_measure_27 rfl rfl ?_
      refine V_iload_n 1 K.1 dX9_measure_28 rfl rfl ?_
      refine V_putI (key := 2249) K.1 dX9_measure_29 rfl rfl fw_X9_124 pw_X9_9 rfl rfl rfl rfl ?_
      refine V_iload_n 2 K.1 dX9_measure_32 rfl rfl ?_
      exact V_iret K dX9_measure_33 (k1 c6 c16)
    · refine V_bipush (v := -3) K.1 dX9_measure_19 (by decide) ?_
      exact V_iret K dX9_measure_21 (k2 c6 c16)
  · refine V_bipush (v := -2) K.1 dX9_measure_9 (by decide) ?_
    exact V_iret K dX9_measure_11 (k3 c6)
set_option maxRecDepth 20000 in
theorem R_X8_law_0 {ω : WT} {κ : KT} {l : Launch} {d : Nat} {post : Option Value → St → Prop} {σ : St} {x1 : Int32}  (K : Cm ω κ l yX8_law cX8_law 3 d (some .int) post) (hdp : 1 ≤ d)
    (k1 : (x1 < 0) → post (some (.int (-2 : Int32))) σ)
    (k2 : ¬ (x1 < 0) → (x1 < (3 : Int32)) → ¬ ((if ((σ.1 640) ≤ 0) then (0 : Int32) else (1 : Int32)) = 0) → post (some (.int (σ.1 643))) (pS σ 643 x1))
    (k3 : ¬ (x1 < 0) → (x1 < (3 : Int32)) → ((if ((σ.1 640) ≤ 0) then (0 : Int32) else (1 : Int32)) = 0) → post (some (.int (-3 : Int32))) σ)
    (k4 : ¬ (x1 < 0) → ¬ (x1 < (3 : Int32)) → post (some (.int (-2 : Int32))) σ) :
    V ω κ 0 [(0, .ref (ω.2.2.1 0)), (1, .int x1)] [] σ := by
  refine V_iload_n 1 K.1 dX8_law_0 rfl rfl ?_
  refine V_if_lt (tgt := 9) K.1 dX8_law_1 (by decide) (fun c1 => ?_) (fun c1 => ?_)
  · refine V_bipush (v := -2) K.1 dX8_law_9 (by decide) ?_
    exact V_iret K dX8_law_11 (k1 c1)
  · refine V_iload_n 1 K.1 dX8_law_4 rfl rfl ?_
    refine V_iconst (v := 3) K.1 dX8_law_5 (by decide) ?_
    refine V_icmp_lt (tgt := 12) K.1 dX8_law_6 (by decide) (fun c6 => ?_) (fun c6 => ?_)
    · refine V_aload_n 0 K.1 dX8_law_12 rfl rfl ?_
      refine V_get (v := .ref (ω.2.2.1 10)) K.1 dX8_law_13 rfl rfl fw_X8_21 rfl rfl ?_
      refine V_callV (d' := d - 1) (As := []) K.1 dX8_law_16 cw_X8_107 rfl rfl rfl (by omega) rfl (by simp [Value.category]) (m_X7_stands K.1.wf (by omega)) (go_I ?_)
      refine V_if_ne (tgt := 25) K.1 dX8_law_19 (by decide) (fun c19 => ?_) (fun c19 => ?_)
      · refine V_aload_n 0 K.1 dX8_law_25 rfl rfl ?_
        refine V_get (v := .ref (ω.2.2.1 10)) K.1 dX8_law_26 rfl rfl fw_X8_21 rfl rfl ?_
        refine V_get (v := .int (σ.1 643)) K.1 dX8_law_29 rfl rfl fw_X8_114 rfl rfl ?_
        refine V_istore_n (L' := [(0, .ref (ω.2.2.1 0)), (1, .int x1), (2, .int (σ.1 643))]) K.1 dX8_law_32 rfl (by decide) rfl ?_
        refine V_aload_n 0 K.1 dX8_law_33 rfl rfl ?_
        refine V_get (v := .ref (ω.2.2.1 10)) K.1 dX8_law_34 rfl rfl fw_X8_21 rfl rfl ?_
        refine V_iload_n 1 K.1 dX8_law_37 rfl rfl ?_
        refine V_putI (key := 643) K.1 dX8_law_38 rfl rfl fw_X8_114 pw_X7_3 rfl rfl rfl rfl ?_
        refine V_iload_n 2 K.1 dX8_law_41 rfl rfl ?_
        exact V_iret K dX8_law_42 (k2 c1 c6 c19)
      · refine V_bipush (v := -3) K.1 dX8_law_22 (by decide) ?_
        exact V_iret K dX8_law_24 (k3 c1 c6 c19)
    · refine V_bipush (v := -2) K.1 dX8_law_9 (by decide) ?_
      exact V_iret K dX8_law_11 (k4 c1 c6)
set_option maxRecDepth 20000 in
theorem R_X9_law_0 {ω : WT} {κ : KT} {l : Launch} {d : Nat} {post : Option Value → St → Prop} {σ : St} {x1 : Int32}  (K : Cm ω κ l yX9_law cX9_law 3 d (some .int) post) (hdp : 1 ≤ d)
    (k1 : ¬ ((if (x1 < (0 : Int32)) then (0 : Int32) else (if ((2 : Int32) < x1) then (0 : Int32) else (1 : Int32))) = 0) → ¬ ((if ((σ.1 2245) ≤ 0) then (0 : Int32) else (1 : Int32)) = 0) → post (some (.int (σ.1 2250))) (pS σ 2250 x1))
    (k2 : ¬ ((if (x1 < (0 : Int32)) then (0 : Int32) else (if ((2 : Int32) < x1) then (0 : Int32) else (1 : Int32))) = 0) → ((if ((σ.1 2245) ≤ 0) then (0 : Int32) else (1 : Int32)) = 0) → post (some (.int (-3 : Int32))) σ)
    (k3 : ((if (x1 < (0 : Int32)) then (0 : Int32) else (if ((2 : Int32) < x1) then (0 : Int32) else (1 : Int32))) = 0) → post (some (.int (-2 : Int32))) σ) :
    V ω κ 0 [(0, .ref (ω.2.2.1 35)), (1, .int x1)] [] σ := by
  refine V_iload_n 1 K.1 dX9_law_0 rfl rfl ?_
  refine V_iconst (v := 0) K.1 dX9_law_1 (by decide) ?_
  refine V_iconst (v := 2) K.1 dX9_law_2 (by decide) ?_
  refine V_callS (d' := d - 1) (As := [.int x1, .int (0 : Int32), .int (2 : Int32)]) K.1 dX9_law_3 cw_X9_87 rfl (by omega) rfl (by simp [Value.category]) (m_X9_within K.1.wf (by omega)) (go_I ?_)
  refine V_if_ne (tgt := 12) K.1 dX9_law_6 (by decide) (fun c6 => ?_) (fun c6 => ?_)
  · refine V_aload_n 0 K.1 dX9_law_12 rfl rfl ?_
    refine V_callV (d' := d - 1) (As := []) K.1 dX9_law_13 cw_X9_146 rfl rfl rfl (by omega) rfl (by simp [Value.category]) (m_X9_isTown K.1.wf (by omega)) (go_I ?_)
    refine V_if_ne (tgt := 22) K.1 dX9_law_16 (by decide) (fun c16 => ?_) (fun c16 => ?_)
    · refine V_aload_n 0 K.1 dX9_law_22 rfl rfl ?_
      refine V_get (v := .int (σ.1 2250)) K.1 dX9_law_23 rfl rfl fw_X9_127 rfl rfl ?_
      refine V_istore_n (L' := [(0, .ref (ω.2.2.1 35)), (1, .int x1), (2, .int (σ.1 2250))]) K.1 dX9_law_26 rfl (by decide) rfl ?_
      refine V_aload_n 0 K.1 dX9_law_27 rfl rfl ?_
      refine V_iload_n 1 K.1 dX9_law_28 rfl rfl ?_
      refine V_putI (key := 2250) K.1 dX9_law_29 rfl rfl fw_X9_127 pw_X9_10 rfl rfl rfl rfl ?_
      refine V_iload_n 2 K.1 dX9_law_32 rfl rfl ?_
      exact V_iret K dX9_law_33 (k1 c6 c16)
    · refine V_bipush (v := -3) K.1 dX9_law_19 (by decide) ?_
      exact V_iret K dX9_law_21 (k2 c6 c16)
  · refine V_bipush (v := -2) K.1 dX9_law_9 (by decide) ?_
    exact V_iret K dX9_law_11 (k3 c6)
set_option maxRecDepth 20000 in
theorem R_X8_swear_0 {ω : WT} {κ : KT} {l : Launch} {d : Nat} {post : Option Value → St → Prop} {σ : St} {x1 : Int32}  (K : Cm ω κ l yX8_swear cX8_swear 2 d (some .int) post) (hdp : 1 ≤ d)
    (b1 : ¬ ((if (x1 < 0) then (0 : Int32) else (if ((σ.1 640) ≤ x1) then (0 : Int32) else (1 : Int32))) = 0) → vp_in x1 8)
    (k2 : ¬ ((if (x1 < 0) then (0 : Int32) else (if ((σ.1 640) ≤ x1) then (0 : Int32) else (1 : Int32))) = 0) → ¬ ((σ.2.1 11 (x1).toNatClampNeg) = (2 : Int32)) → post (some (.int x1)) (pS σ 8 (((31 : Int32) * (σ.1 8)) + (4 : Int32))))
    (k3 : ¬ ((if (x1 < 0) then (0 : Int32) else (if ((σ.1 640) ≤ x1) then (0 : Int32) else (1 : Int32))) = 0) → ((σ.2.1 11 (x1).toNatClampNeg) = (2 : Int32)) → post (some (.int (30 : Int32))) (pS σ 8 (((31 : Int32) * (σ.1 8)) + (5 : Int32))))
    (k4 : ((if (x1 < 0) then (0 : Int32) else (if ((σ.1 640) ≤ x1) then (0 : Int32) else (1 : Int32))) = 0) → post (some (.int (-1 : Int32))) σ) :
    V ω κ 0 [(0, .ref (ω.2.2.1 0)), (1, .int x1)] [] σ := by
  refine V_aload_n 0 K.1 dX8_swear_0 rfl rfl ?_
  refine V_get (v := .ref (ω.2.2.1 10)) K.1 dX8_swear_1 rfl rfl fw_X8_21 rfl rfl ?_
  refine V_iload_n 1 K.1 dX8_swear_4 rfl rfl ?_
  refine V_callV (d' := d - 1) (As := [.int x1]) K.1 dX8_swear_5 cw_X8_89 rfl rfl rfl (by omega) rfl (by simp [Value.category]) (m_X7_hasOne K.1.wf (by omega)) (go_I ?_)
  refine V_if_ne (tgt := 13) K.1 dX8_swear_8 (by decide) (fun c8 => ?_) (fun c8 => ?_)
  · refine V_aload_n 0 K.1 dX8_swear_13 rfl rfl ?_
    refine V_get (v := .ref (ω.2.2.1 10)) K.1 dX8_swear_14 rfl rfl fw_X8_21 rfl rfl ?_
    refine V_get (v := .ref (ω.2.2.1 11)) K.1 dX8_swear_17 rfl rfl fw_X8_93 rfl rfl ?_
    refine V_iload_n 1 K.1 dX8_swear_20 rfl rfl ?_
    refine V_iaload (v := (σ.2.1 11 (x1).toNatClampNeg)) K.1 dX8_swear_21 rfl (b1 c8) rfl ?_
    refine V_iconst (v := 2) K.1 dX8_swear_22 (by decide) ?_
    refine V_icmp_ne (tgt := 34) K.1 dX8_swear_23 (by decide) (fun c23 => ?_) (fun c23 => ?_)
    · refine V_aload_n 0 K.1 dX8_swear_34 rfl rfl ?_
      refine V_iconst (v := 4) K.1 dX8_swear_35 (by decide) ?_
      refine V_callV (d' := d - 1) (As := [.int (4 : Int32)]) K.1 dX8_swear_36 cw_X8_271 rfl rfl rfl (by omega) rfl (by simp [Value.category]) (m_X8_leave K.1.wf (by omega)) (go_V ?_)
      refine V_iload_n 1 K.1 dX8_swear_39 rfl rfl ?_
      exact V_iret K dX8_swear_40 (k2 c8 c23)
    · refine V_aload_n 0 K.1 dX8_swear_26 rfl rfl ?_
      refine V_iconst (v := 5) K.1 dX8_swear_27 (by decide) ?_
      refine V_callV (d' := d - 1) (As := [.int (5 : Int32)]) K.1 dX8_swear_28 cw_X8_271 rfl rfl rfl (by omega) rfl (by simp [Value.category]) (m_X8_leave K.1.wf (by omega)) (go_V ?_)
      refine V_bipush (v := 30) K.1 dX8_swear_31 (by decide) ?_
      exact V_iret K dX8_swear_33 (k3 c8 c23)
  · refine V_iconst (v := -1) K.1 dX8_swear_11 (by decide) ?_
    exact V_iret K dX8_swear_12 (k4 c8)
set_option maxRecDepth 20000 in
theorem R_X9_swear_0 {ω : WT} {κ : KT} {l : Launch} {d : Nat} {post : Option Value → St → Prop} {σ : St} {x1 : Int32}  (K : Cm ω κ l yX9_swear cX9_swear 2 d (some .int) post) (hdp : 1 ≤ d)
    (b1 : ¬ ((if (x1 < 0) then (0 : Int32) else (if ((σ.1 2245) ≤ x1) then (0 : Int32) else (1 : Int32))) = 0) → vp_in x1 8)
    (b3 : ¬ ((if (x1 < 0) then (0 : Int32) else (if ((σ.1 2245) ≤ x1) then (0 : Int32) else (1 : Int32))) = 0) → vp_in x1 8)
    (k5 : ¬ ((if (x1 < 0) then (0 : Int32) else (if ((σ.1 2245) ≤ x1) then (0 : Int32) else (1 : Int32))) = 0) → post (some (.int (if ((σ.2.1 39 (x1).toNatClampNeg) = (2 : Int32)) then (30 : Int32) else x1))) (pS σ 2241 (((31 : Int32) * (σ.1 2241)) + (if ((σ.2.1 39 (x1).toNatClampNeg) = (2 : Int32)) then (5 : Int32) else (4 : Int32)))))
    (k6 : ((if (x1 < 0) then (0 : Int32) else (if ((σ.1 2245) ≤ x1) then (0 : Int32) else (1 : Int32))) = 0) → post (some (.int (-1 : Int32))) σ) :
    V ω κ 0 [(0, .ref (ω.2.2.1 35)), (1, .int x1)] [] σ := by
  refine V_aload_n 0 K.1 dX9_swear_0 rfl rfl ?_
  refine V_iload_n 1 K.1 dX9_swear_1 rfl rfl ?_
  refine V_callV (d' := d - 1) (As := [.int x1]) K.1 dX9_swear_2 cw_X9_140 rfl rfl rfl (by omega) rfl (by simp [Value.category]) (m_X9_isOne K.1.wf (by omega)) (go_I ?_)
  refine V_if_ne (tgt := 10) K.1 dX9_swear_5 (by decide) (fun c5 => ?_) (fun c5 => ?_)
  · refine V_aload_n 0 K.1 dX9_swear_10 rfl rfl ?_
    refine V_aload_n 0 K.1 dX9_swear_11 rfl rfl ?_
    refine V_get (v := .ref (ω.2.2.1 39)) K.1 dX9_swear_12 rfl rfl fw_X9_19 rfl rfl ?_
    refine V_iload_n 1 K.1 dX9_swear_15 rfl rfl ?_
    refine V_iaload (v := (σ.2.1 39 (x1).toNatClampNeg)) K.1 dX9_swear_16 rfl (b1 c5) rfl ?_
    refine V_iconst (v := 2) K.1 dX9_swear_17 (by decide) ?_
    refine V_join (J := 26) (S := [.ref (ω.2.2.1 35)]) (v := .int (if ((σ.2.1 39 (x1).toNatClampNeg) = (2 : Int32)) then (5 : Int32) else (4 : Int32))) (fun hJ2 => ?_) ?_
    · refine V_icmp_ne (tgt := 25) K.1 dX9_swear_18 (by decide) (fun c18 => ?_) (fun c18 => ?_)
      · refine V_iconst (v := 4) K.1 dX9_swear_25 (by decide) ?_
        exact V_top (if_neg c18) hJ2
      · refine V_iconst (v := 5) K.1 dX9_swear_21 (by decide) ?_
        refine V_goto (tgt := 26) K.1 dX9_swear_22 (by decide) ?_
        exact V_top (if_pos c18) hJ2
    refine V_callV (d' := d - 1) (As := [.int (if ((σ.2.1 39 (x1).toNatClampNeg) = (2 : Int32)) then (5 : Int32) else (4 : Int32))]) K.1 dX9_swear_26 cw_X9_298 rfl rfl rfl (by omega) rfl (by simp [Value.category]) (m_X9_begins K.1.wf (by omega)) (go_V ?_)
    refine V_aload_n 0 K.1 dX9_swear_29 rfl rfl ?_
    refine V_get (v := .ref (ω.2.2.1 39)) K.1 dX9_swear_30 rfl rfl fw_X9_19 rfl rfl ?_
    refine V_iload_n 1 K.1 dX9_swear_33 rfl rfl ?_
    refine V_iaload (v := (σ.2.1 39 (x1).toNatClampNeg)) K.1 dX9_swear_34 rfl (b3 c5) rfl ?_
    refine V_iconst (v := 2) K.1 dX9_swear_35 (by decide) ?_
    refine V_join (J := 45) (S := []) (v := .int (if ((σ.2.1 39 (x1).toNatClampNeg) = (2 : Int32)) then (30 : Int32) else x1)) (fun hJ4 => ?_) ?_
    · refine V_icmp_ne (tgt := 44) K.1 dX9_swear_36 (by decide) (fun c36 => ?_) (fun c36 => ?_)
      · refine V_iload_n 1 K.1 dX9_swear_44 rfl rfl ?_
        exact V_top (if_neg c36) hJ4
      · refine V_bipush (v := 30) K.1 dX9_swear_39 (by decide) ?_
        refine V_goto (tgt := 45) K.1 dX9_swear_41 (by decide) ?_
        exact V_top (if_pos c36) hJ4
    exact V_iret K dX9_swear_45 (k5 c5)
  · refine V_iconst (v := -1) K.1 dX9_swear_8 (by decide) ?_
    exact V_iret K dX9_swear_9 (k6 c5)
set_option maxRecDepth 20000 in
theorem R_X8_as_0 {ω : WT} {κ : KT} {l : Launch} {d : Nat} {post : Option Value → St → Prop} {σ : St} {x1 x2 : Int32}  (K : Cm ω κ l yX8_as cX8_as 3 d (some .int) post) (hdp : 1 ≤ d)
    (k1 : ¬ ((if (x1 < 0) then (0 : Int32) else (if ((σ.1 640) ≤ x1) then (0 : Int32) else (1 : Int32))) = 0) → (x2 < 0) → post (some (.int (-2 : Int32))) (pS σ 9 (0 : Int32)))
    (b2 : ¬ ((if (x1 < 0) then (0 : Int32) else (if ((σ.1 640) ≤ x1) then (0 : Int32) else (1 : Int32))) = 0) → ¬ (x2 < 0) → (x2 < (3 : Int32)) → vp_in x1 8)
    (k3 : ¬ ((if (x1 < 0) then (0 : Int32) else (if ((σ.1 640) ≤ x1) then (0 : Int32) else (1 : Int32))) = 0) → ¬ (x2 < 0) → (x2 < (3 : Int32)) → (x2 ≤ (σ.2.1 11 (x1).toNatClampNeg)) → post (some (.int (1 : Int32))) (pS σ 9 (0 : Int32)))
    (k4 : ¬ ((if (x1 < 0) then (0 : Int32) else (if ((σ.1 640) ≤ x1) then (0 : Int32) else (1 : Int32))) = 0) → ¬ (x2 < 0) → (x2 < (3 : Int32)) → ¬ (x2 ≤ (σ.2.1 11 (x1).toNatClampNeg)) → post (some (.int ((-10 : Int32) - (2 : Int32)))) (pS (pS σ 9 (0 : Int32)) 9 (2 : Int32)))
    (k5 : ¬ ((if (x1 < 0) then (0 : Int32) else (if ((σ.1 640) ≤ x1) then (0 : Int32) else (1 : Int32))) = 0) → ¬ (x2 < 0) → ¬ (x2 < (3 : Int32)) → post (some (.int (-2 : Int32))) (pS σ 9 (0 : Int32)))
    (k6 : ((if (x1 < 0) then (0 : Int32) else (if ((σ.1 640) ≤ x1) then (0 : Int32) else (1 : Int32))) = 0) → post (some (.int (-1 : Int32))) (pS σ 9 (0 : Int32))) :
    V ω κ 0 [(0, .ref (ω.2.2.1 0)), (1, .int x1), (2, .int x2)] [] σ := by
  refine V_aload_n 0 K.1 dX8_as_0 rfl rfl ?_
  refine V_iconst (v := 0) K.1 dX8_as_1 (by decide) ?_
  refine V_putI (key := 9) K.1 dX8_as_2 rfl rfl fw_X8_220 pw_X8_9 rfl rfl rfl rfl ?_
  refine V_aload_n 0 K.1 dX8_as_5 rfl rfl ?_
  refine V_get (v := .ref (ω.2.2.1 10)) K.1 dX8_as_6 rfl rfl fw_X8_21 rfl rfl ?_
  refine V_iload_n 1 K.1 dX8_as_9 rfl rfl ?_
  refine V_callV (d' := d - 1) (As := [.int x1]) K.1 dX8_as_10 cw_X8_89 rfl rfl rfl (by omega) rfl (by simp [Value.category]) (m_X7_hasOne K.1.wf (by omega)) (go_I ?_)
  refine V_if_ne (tgt := 18) K.1 dX8_as_13 (by decide) (fun c13 => ?_) (fun c13 => ?_)
  · refine V_iload_n 2 K.1 dX8_as_18 rfl rfl ?_
    refine V_if_lt (tgt := 27) K.1 dX8_as_19 (by decide) (fun c19 => ?_) (fun c19 => ?_)
    · refine V_bipush (v := -2) K.1 dX8_as_27 (by decide) ?_
      exact V_iret K dX8_as_29 (k1 c13 c19)
    · refine V_iload_n 2 K.1 dX8_as_22 rfl rfl ?_
      refine V_iconst (v := 3) K.1 dX8_as_23 (by decide) ?_
      refine V_icmp_lt (tgt := 30) K.1 dX8_as_24 (by decide) (fun c24 => ?_) (fun c24 => ?_)
      · refine V_iload_n 2 K.1 dX8_as_30 rfl rfl ?_
        refine V_aload_n 0 K.1 dX8_as_31 rfl rfl ?_
        refine V_get (v := .ref (ω.2.2.1 10)) K.1 dX8_as_32 rfl rfl fw_X8_21 rfl rfl ?_
        refine V_get (v := .ref (ω.2.2.1 11)) K.1 dX8_as_35 rfl rfl fw_X8_93 rfl rfl ?_
        refine V_iload_n 1 K.1 dX8_as_38 rfl rfl ?_
        refine V_iaload (v := (σ.2.1 11 (x1).toNatClampNeg)) K.1 dX8_as_39 rfl (b2 c13 c19 c24) rfl ?_
        refine V_icmp_le (tgt := 51) K.1 dX8_as_40 (by decide) (fun c40 => ?_) (fun c40 => ?_)
        · refine V_iconst (v := 1) K.1 dX8_as_51 (by decide) ?_
          exact V_iret K dX8_as_52 (k3 c13 c19 c24 c40)
        · refine V_aload_n 0 K.1 dX8_as_43 rfl rfl ?_
          refine V_iconst (v := 2) K.1 dX8_as_44 (by decide) ?_
          refine V_callV (d' := d - 1) (As := [.int (2 : Int32)]) K.1 dX8_as_45 cw_X8_229 rfl rfl rfl (by omega) rfl (by simp [Value.category]) (m_X8_failed K.1.wf (by omega)) (go_I ?_)
          refine V_goto (tgt := 52) K.1 dX8_as_48 (by decide) ?_
          exact V_iret K dX8_as_52 (k4 c13 c19 c24 c40)
      · refine V_bipush (v := -2) K.1 dX8_as_27 (by decide) ?_
        exact V_iret K dX8_as_29 (k5 c13 c19 c24)
  · refine V_iconst (v := -1) K.1 dX8_as_16 (by decide) ?_
    exact V_iret K dX8_as_17 (k6 c13)
set_option maxRecDepth 20000 in
theorem R_X9_as_0 {ω : WT} {κ : KT} {l : Launch} {d : Nat} {post : Option Value → St → Prop} {σ : St} {x1 x2 : Int32}  (K : Cm ω κ l yX9_as cX9_as 3 d (some .int) post) (hdp : 1 ≤ d)
    (b1 : ¬ ((if (x1 < 0) then (0 : Int32) else (if ((σ.1 2245) ≤ x1) then (0 : Int32) else (1 : Int32))) = 0) → ¬ ((if (x2 < (0 : Int32)) then (0 : Int32) else (if ((2 : Int32) < x2) then (0 : Int32) else (1 : Int32))) = 0) → vp_in x1 8)
    (k2 : ¬ ((if (x1 < 0) then (0 : Int32) else (if ((σ.1 2245) ≤ x1) then (0 : Int32) else (1 : Int32))) = 0) → ¬ ((if (x2 < (0 : Int32)) then (0 : Int32) else (if ((2 : Int32) < x2) then (0 : Int32) else (1 : Int32))) = 0) → ((σ.2.1 39 (x1).toNatClampNeg) < x2) → post (some (.int ((-10 : Int32) - (2 : Int32)))) (pS (pS σ 2240 (0 : Int32)) 2240 (2 : Int32)))
    (k3 : ¬ ((if (x1 < 0) then (0 : Int32) else (if ((σ.1 2245) ≤ x1) then (0 : Int32) else (1 : Int32))) = 0) → ¬ ((if (x2 < (0 : Int32)) then (0 : Int32) else (if ((2 : Int32) < x2) then (0 : Int32) else (1 : Int32))) = 0) → ¬ ((σ.2.1 39 (x1).toNatClampNeg) < x2) → post (some (.int (1 : Int32))) (pS σ 2240 (0 : Int32)))
    (k4 : ¬ ((if (x1 < 0) then (0 : Int32) else (if ((σ.1 2245) ≤ x1) then (0 : Int32) else (1 : Int32))) = 0) → ((if (x2 < (0 : Int32)) then (0 : Int32) else (if ((2 : Int32) < x2) then (0 : Int32) else (1 : Int32))) = 0) → post (some (.int (-2 : Int32))) (pS σ 2240 (0 : Int32)))
    (k5 : ((if (x1 < 0) then (0 : Int32) else (if ((σ.1 2245) ≤ x1) then (0 : Int32) else (1 : Int32))) = 0) → post (some (.int (-1 : Int32))) (pS σ 2240 (0 : Int32))) :
    V ω κ 0 [(0, .ref (ω.2.2.1 35)), (1, .int x1), (2, .int x2)] [] σ := by
  refine V_aload_n 0 K.1 dX9_as_0 rfl rfl ?_
  refine V_iconst (v := 0) K.1 dX9_as_1 (by decide) ?_
  refine V_putI (key := 2240) K.1 dX9_as_2 rfl rfl fw_X9_81 pw_X9_0 rfl rfl rfl rfl ?_
  refine V_aload_n 0 K.1 dX9_as_5 rfl rfl ?_
  refine V_iload_n 1 K.1 dX9_as_6 rfl rfl ?_
  refine V_callV (d' := d - 1) (As := [.int x1]) K.1 dX9_as_7 cw_X9_140 rfl rfl rfl (by omega) rfl (by simp [Value.category]) (m_X9_isOne K.1.wf (by omega)) (go_I ?_)
  refine V_if_ne (tgt := 15) K.1 dX9_as_10 (by decide) (fun c10 => ?_) (fun c10 => ?_)
  · refine V_iload_n 2 K.1 dX9_as_15 rfl rfl ?_
    refine V_iconst (v := 0) K.1 dX9_as_16 (by decide) ?_
    refine V_iconst (v := 2) K.1 dX9_as_17 (by decide) ?_
    refine V_callS (d' := d - 1) (As := [.int x2, .int (0 : Int32), .int (2 : Int32)]) K.1 dX9_as_18 cw_X9_87 rfl (by omega) rfl (by simp [Value.category]) (m_X9_within K.1.wf (by omega)) (go_I ?_)
    refine V_if_ne (tgt := 27) K.1 dX9_as_21 (by decide) (fun c21 => ?_) (fun c21 => ?_)
    · refine V_aload_n 0 K.1 dX9_as_27 rfl rfl ?_
      refine V_get (v := .ref (ω.2.2.1 39)) K.1 dX9_as_28 rfl rfl fw_X9_19 rfl rfl ?_
      refine V_iload_n 1 K.1 dX9_as_31 rfl rfl ?_
      refine V_iaload (v := (σ.2.1 39 (x1).toNatClampNeg)) K.1 dX9_as_32 rfl (b1 c10 c21) rfl ?_
      refine V_iload_n 2 K.1 dX9_as_33 rfl rfl ?_
      refine V_icmp_lt (tgt := 41) K.1 dX9_as_34 (by decide) (fun c34 => ?_) (fun c34 => ?_)
      · refine V_aload_n 0 K.1 dX9_as_41 rfl rfl ?_
        refine V_iconst (v := 2) K.1 dX9_as_42 (by decide) ?_
        refine V_callV (d' := d - 1) (As := [.int (2 : Int32)]) K.1 dX9_as_43 cw_X9_111 rfl rfl rfl (by omega) rfl (by simp [Value.category]) (m_X9_fails K.1.wf (by omega)) (go_I ?_)
        exact V_iret K dX9_as_46 (k2 c10 c21 c34)
      · refine V_iconst (v := 1) K.1 dX9_as_37 (by decide) ?_
        refine V_goto (tgt := 46) K.1 dX9_as_38 (by decide) ?_
        exact V_iret K dX9_as_46 (k3 c10 c21 c34)
    · refine V_bipush (v := -2) K.1 dX9_as_24 (by decide) ?_
      exact V_iret K dX9_as_26 (k4 c10 c21)
  · refine V_iconst (v := -1) K.1 dX9_as_13 (by decide) ?_
    exact V_iret K dX9_as_14 (k5 c10)
set_option maxRecDepth 20000 in
theorem R_X8_trace_0 {ω : WT} {κ : KT} {l : Launch} {d : Nat} {post : Option Value → St → Prop} {σ : St}  (K : Cm ω κ l yX8_trace cX8_trace 1 d (some .int) post)
    (k1 : post (some (.int (σ.1 8))) σ) :
    V ω κ 0 [(0, .ref (ω.2.2.1 0))] [] σ := by
  refine V_aload_n 0 K.1 dX8_trace_0 rfl rfl ?_
  refine V_get (v := .int (σ.1 8)) K.1 dX8_trace_1 rfl rfl fw_X8_275 rfl rfl ?_
  exact V_iret K dX8_trace_4 k1
set_option maxRecDepth 20000 in
theorem R_X9_trace_0 {ω : WT} {κ : KT} {l : Launch} {d : Nat} {post : Option Value → St → Prop} {σ : St}  (K : Cm ω κ l yX9_trace cX9_trace 1 d (some .int) post)
    (k1 : post (some (.int (σ.1 2241))) σ) :
    V ω κ 0 [(0, .ref (ω.2.2.1 35))] [] σ := by
  refine V_aload_n 0 K.1 dX9_trace_0 rfl rfl ?_
  refine V_get (v := .int (σ.1 2241)) K.1 dX9_trace_1 rfl rfl fw_X9_295 rfl rfl ?_
  exact V_iret K dX9_trace_4 k1
set_option maxRecDepth 20000 in
theorem R_X8_fault_0 {ω : WT} {κ : KT} {l : Launch} {d : Nat} {post : Option Value → St → Prop} {σ : St}  (K : Cm ω κ l yX8_fault cX8_fault 1 d (some .int) post)
    (k1 : post (some (.int (σ.1 9))) σ) :
    V ω κ 0 [(0, .ref (ω.2.2.1 0))] [] σ := by
  refine V_aload_n 0 K.1 dX8_fault_0 rfl rfl ?_
  refine V_get (v := .int (σ.1 9)) K.1 dX8_fault_1 rfl rfl fw_X8_220 rfl rfl ?_
  exact V_iret K dX8_fault_4 k1
set_option maxRecDepth 20000 in
theorem R_X9_fault_0 {ω : WT} {κ : KT} {l : Launch} {d : Nat} {post : Option Value → St → Prop} {σ : St}  (K : Cm ω κ l yX9_fault cX9_fault 1 d (some .int) post)
    (k1 : post (some (.int (σ.1 2240))) σ) :
    V ω κ 0 [(0, .ref (ω.2.2.1 35))] [] σ := by
  refine V_aload_n 0 K.1 dX9_fault_0 rfl rfl ?_
  refine V_get (v := .int (σ.1 2240)) K.1 dX9_fault_1 rfl rfl fw_X9_81 rfl rfl ?_
  exact V_iret K dX9_fault_4 k1
set_option maxRecDepth 20000 in
theorem R_X8_many_0 {ω : WT} {κ : KT} {l : Launch} {d : Nat} {post : Option Value → St → Prop} {σ : St} {x1 : Int32}  (K : Cm ω κ l yX8_many cX8_many 2 d (some .int) post)
    (k1 : (x1 = 0) → post (some (.int (σ.1 640))) σ)
    (k2 : ¬ (x1 = 0) → (x1 = 1) → post (some (.int (σ.1 641))) σ)
    (k3 : ¬ (x1 = 0) → ¬ (x1 = 1) → (x1 = 2) → post (some (.int (σ.1 642))) σ)
    (k4 : ¬ (x1 = 0) → ¬ (x1 = 1) → ¬ (x1 = 2) → (x1 = 3) → post (some (.int (σ.1 643))) σ)
    (k5 : ¬ (x1 = 0) → ¬ (x1 = 1) → ¬ (x1 = 2) → ¬ (x1 = 3) → (x1 = 4) → post (some (.int (σ.1 644))) σ)
    (k6 : ¬ (x1 = 0) → ¬ (x1 = 1) → ¬ (x1 = 2) → ¬ (x1 = 3) → ¬ (x1 = 4) → post (some (.int (-2 : Int32))) σ) :
    V ω κ 0 [(0, .ref (ω.2.2.1 0)), (1, .int x1)] [] σ := by
  refine V_iload_n 1 K.1 dX8_many_0 rfl rfl ?_
  by_cases c1_0 : x1 = 0
  · refine V_tableIn (off := 35) (tgt := 36) K.1 dX8_many_1 (by rw [c1_0]; decide) (by rw [c1_0]; decide) (by rw [c1_0]; decide) (by decide) ?_
    refine V_aload_n 0 K.1 dX8_many_36 rfl rfl ?_
    refine V_get (v := .ref (ω.2.2.1 10)) K.1 dX8_many_37 rfl rfl fw_X8_21 rfl rfl ?_
    refine V_get (v := .int (σ.1 640)) K.1 dX8_many_40 rfl rfl fw_X8_85 rfl rfl ?_
    exact V_iret K dX8_many_43 (k1 c1_0)
  by_cases c1_1 : x1 = 1
  · refine V_tableIn (off := 43) (tgt := 44) K.1 dX8_many_1 (by rw [c1_1]; decide) (by rw [c1_1]; decide) (by rw [c1_1]; decide) (by decide) ?_
    refine V_aload_n 0 K.1 dX8_many_44 rfl rfl ?_
    refine V_get (v := .ref (ω.2.2.1 10)) K.1 dX8_many_45 rfl rfl fw_X8_21 rfl rfl ?_
    refine V_get (v := .int (σ.1 641)) K.1 dX8_many_48 rfl rfl fw_X8_278 rfl rfl ?_
    exact V_iret K dX8_many_51 (k2 c1_0 c1_1)
  by_cases c1_2 : x1 = 2
  · refine V_tableIn (off := 51) (tgt := 52) K.1 dX8_many_1 (by rw [c1_2]; decide) (by rw [c1_2]; decide) (by rw [c1_2]; decide) (by decide) ?_
    refine V_aload_n 0 K.1 dX8_many_52 rfl rfl ?_
    refine V_get (v := .ref (ω.2.2.1 10)) K.1 dX8_many_53 rfl rfl fw_X8_21 rfl rfl ?_
    refine V_get (v := .int (σ.1 642)) K.1 dX8_many_56 rfl rfl fw_X8_111 rfl rfl ?_
    exact V_iret K dX8_many_59 (k3 c1_0 c1_1 c1_2)
  by_cases c1_3 : x1 = 3
  · refine V_tableIn (off := 59) (tgt := 60) K.1 dX8_many_1 (by rw [c1_3]; decide) (by rw [c1_3]; decide) (by rw [c1_3]; decide) (by decide) ?_
    refine V_aload_n 0 K.1 dX8_many_60 rfl rfl ?_
    refine V_get (v := .ref (ω.2.2.1 10)) K.1 dX8_many_61 rfl rfl fw_X8_21 rfl rfl ?_
    refine V_get (v := .int (σ.1 643)) K.1 dX8_many_64 rfl rfl fw_X8_114 rfl rfl ?_
    exact V_iret K dX8_many_67 (k4 c1_0 c1_1 c1_2 c1_3)
  by_cases c1_4 : x1 = 4
  · refine V_tableIn (off := 67) (tgt := 68) K.1 dX8_many_1 (by rw [c1_4]; decide) (by rw [c1_4]; decide) (by rw [c1_4]; decide) (by decide) ?_
    refine V_aload_n 0 K.1 dX8_many_68 rfl rfl ?_
    refine V_get (v := .ref (ω.2.2.1 10)) K.1 dX8_many_69 rfl rfl fw_X8_21 rfl rfl ?_
    refine V_get (v := .int (σ.1 644)) K.1 dX8_many_72 rfl rfl fw_X8_120 rfl rfl ?_
    exact V_iret K dX8_many_75 (k5 c1_0 c1_1 c1_2 c1_3 c1_4)
  refine V_tableOut (tgt := 76) K.1 dX8_many_1 (by have q0 := lv_neT c1_0 (a := 0) (by decide); have q1 := lv_neT c1_1 (a := 1) (by decide); have q2 := lv_neT c1_2 (a := 2) (by decide); have q3 := lv_neT c1_3 (a := 3) (by decide); have q4 := lv_neT c1_4 (a := 4) (by decide); omega) (by decide) ?_
  refine V_bipush (v := -2) K.1 dX8_many_76 (by decide) ?_
  exact V_iret K dX8_many_78 (k6 c1_0 c1_1 c1_2 c1_3 c1_4)
set_option maxRecDepth 20000 in
theorem R_X9_many_0 {ω : WT} {κ : KT} {l : Launch} {d : Nat} {post : Option Value → St → Prop} {σ : St} {x1 : Int32}  (K : Cm ω κ l yX9_many cX9_many 2 d (some .int) post)
    (k1 : (x1 = 0) → post (some (.int (σ.1 2245))) σ)
    (k2 : ¬ (x1 = 0) → (x1 = 1) → post (some (.int (σ.1 2246))) σ)
    (k3 : ¬ (x1 = 0) → ¬ (x1 = 1) → (x1 = 2) → post (some (.int (σ.1 2249))) σ)
    (k4 : ¬ (x1 = 0) → ¬ (x1 = 1) → ¬ (x1 = 2) → (x1 = 3) → post (some (.int (σ.1 2250))) σ)
    (k5 : ¬ (x1 = 0) → ¬ (x1 = 1) → ¬ (x1 = 2) → ¬ (x1 = 3) → (x1 = 4) → post (some (.int (σ.1 2251))) σ)
    (k6 : ¬ (x1 = 0) → ¬ (x1 = 1) → ¬ (x1 = 2) → ¬ (x1 = 3) → ¬ (x1 = 4) → post (some (.int (-2 : Int32))) σ) :
    V ω κ 0 [(0, .ref (ω.2.2.1 35)), (1, .int x1)] [] σ := by
  refine V_iload_n 1 K.1 dX9_many_0 rfl rfl ?_
  by_cases c1_0 : x1 = 0
  · refine V_tableIn (off := 35) (tgt := 36) K.1 dX9_many_1 (by rw [c1_0]; decide) (by rw [c1_0]; decide) (by rw [c1_0]; decide) (by decide) ?_
    refine V_aload_n 0 K.1 dX9_many_36 rfl rfl ?_
    refine V_get (v := .int (σ.1 2245)) K.1 dX9_many_37 rfl rfl fw_X9_91 rfl rfl ?_
    exact V_iret K dX9_many_40 (k1 c1_0)
  by_cases c1_1 : x1 = 1
  · refine V_tableIn (off := 40) (tgt := 41) K.1 dX9_many_1 (by rw [c1_1]; decide) (by rw [c1_1]; decide) (by rw [c1_1]; decide) (by decide) ?_
    refine V_aload_n 0 K.1 dX9_many_41 rfl rfl ?_
    refine V_get (v := .int (σ.1 2246)) K.1 dX9_many_42 rfl rfl fw_X9_94 rfl rfl ?_
    exact V_iret K dX9_many_45 (k2 c1_0 c1_1)
  by_cases c1_2 : x1 = 2
  · refine V_tableIn (off := 45) (tgt := 46) K.1 dX9_many_1 (by rw [c1_2]; decide) (by rw [c1_2]; decide) (by rw [c1_2]; decide) (by decide) ?_
    refine V_aload_n 0 K.1 dX9_many_46 rfl rfl ?_
    refine V_get (v := .int (σ.1 2249)) K.1 dX9_many_47 rfl rfl fw_X9_124 rfl rfl ?_
    exact V_iret K dX9_many_50 (k3 c1_0 c1_1 c1_2)
  by_cases c1_3 : x1 = 3
  · refine V_tableIn (off := 50) (tgt := 51) K.1 dX9_many_1 (by rw [c1_3]; decide) (by rw [c1_3]; decide) (by rw [c1_3]; decide) (by decide) ?_
    refine V_aload_n 0 K.1 dX9_many_51 rfl rfl ?_
    refine V_get (v := .int (σ.1 2250)) K.1 dX9_many_52 rfl rfl fw_X9_127 rfl rfl ?_
    exact V_iret K dX9_many_55 (k4 c1_0 c1_1 c1_2 c1_3)
  by_cases c1_4 : x1 = 4
  · refine V_tableIn (off := 55) (tgt := 56) K.1 dX9_many_1 (by rw [c1_4]; decide) (by rw [c1_4]; decide) (by rw [c1_4]; decide) (by decide) ?_
    refine V_aload_n 0 K.1 dX9_many_56 rfl rfl ?_
    refine V_get (v := .int (σ.1 2251)) K.1 dX9_many_57 rfl rfl fw_X9_130 rfl rfl ?_
    exact V_iret K dX9_many_60 (k5 c1_0 c1_1 c1_2 c1_3 c1_4)
  refine V_tableOut (tgt := 61) K.1 dX9_many_1 (by have q0 := lv_neT c1_0 (a := 0) (by decide); have q1 := lv_neT c1_1 (a := 1) (by decide); have q2 := lv_neT c1_2 (a := 2) (by decide); have q3 := lv_neT c1_3 (a := 3) (by decide); have q4 := lv_neT c1_4 (a := 4) (by decide); omega) (by decide) ?_
  refine V_bipush (v := -2) K.1 dX9_many_61 (by decide) ?_
  exact V_iret K dX9_many_63 (k6 c1_0 c1_1 c1_2 c1_3 c1_4)
set_option maxRecDepth 20000 in
theorem R_X8_sheet_0 {ω : WT} {κ : KT} {l : Launch} {d : Nat} {post : Option Value → St → Prop} {σ : St} {x1 x2 x3 : Int32}  (K : Cm ω κ l yX8_sheet cX8_sheet 4 d (some .int) post) (hdp : 1 ≤ d)
    (k1 : ¬ ((if (x1 < 0) then (0 : Int32) else (if ((4 : Int32) ≤ x1) then (0 : Int32) else (1 : Int32))) = 0) → ((if (x2 < 0) then (0 : Int32) else (if ((3 : Int32) ≤ x2) then (0 : Int32) else (1 : Int32))) = 0) → post (some (.int (-2 : Int32))) (pS σ 9 (0 : Int32)))
    (k2 : ¬ ((if (x1 < 0) then (0 : Int32) else (if ((4 : Int32) ≤ x1) then (0 : Int32) else (1 : Int32))) = 0) → ¬ ((if (x2 < 0) then (0 : Int32) else (if ((3 : Int32) ≤ x2) then (0 : Int32) else (1 : Int32))) = 0) → (x3 ≤ (80 : Int32)) → (0 ≤ x3) → V ω κ 45 [(2, .int x2), (3, .int x3)] [.int x1, .ref (ω.2.2.1 1)] (pS σ 9 (0 : Int32)))
    (k3 : ¬ ((if (x1 < 0) then (0 : Int32) else (if ((4 : Int32) ≤ x1) then (0 : Int32) else (1 : Int32))) = 0) → ¬ ((if (x2 < 0) then (0 : Int32) else (if ((3 : Int32) ≤ x2) then (0 : Int32) else (1 : Int32))) = 0) → (x3 ≤ (80 : Int32)) → ¬ (0 ≤ x3) → post (some (.int ((-10 : Int32) - (4 : Int32)))) (pS (pS σ 9 (0 : Int32)) 9 (4 : Int32)))
    (k4 : ¬ ((if (x1 < 0) then (0 : Int32) else (if ((4 : Int32) ≤ x1) then (0 : Int32) else (1 : Int32))) = 0) → ¬ ((if (x2 < 0) then (0 : Int32) else (if ((3 : Int32) ≤ x2) then (0 : Int32) else (1 : Int32))) = 0) → ¬ (x3 ≤ (80 : Int32)) → post (some (.int (-2 : Int32))) (pS σ 9 (0 : Int32)))
    (k5 : ((if (x1 < 0) then (0 : Int32) else (if ((4 : Int32) ≤ x1) then (0 : Int32) else (1 : Int32))) = 0) → post (some (.int (-1 : Int32))) (pS σ 9 (0 : Int32))) :
    V ω κ 0 [(0, .ref (ω.2.2.1 0)), (1, .int x1), (2, .int x2), (3, .int x3)] [] σ := by
  refine V_aload_n 0 K.1 dX8_sheet_0 rfl rfl ?_
  refine V_iconst (v := 0) K.1 dX8_sheet_1 (by decide) ?_
  refine V_putI (key := 9) K.1 dX8_sheet_2 rfl rfl fw_X8_220 pw_X8_9 rfl rfl rfl rfl ?_
  refine V_iload_n 1 K.1 dX8_sheet_5 rfl rfl ?_
  refine V_callS (d' := d - 1) (As := [.int x1]) K.1 dX8_sheet_6 cw_X8_223 rfl (by omega) rfl (by simp [Value.category]) (m_X8_isSheet K.1.wf (by omega)) (go_I ?_)
  refine V_if_ne (tgt := 14) K.1 dX8_sheet_9 (by decide) (fun c9 => ?_) (fun c9 => ?_)
  · refine V_iload_n 2 K.1 dX8_sheet_14 rfl rfl ?_
    refine V_callS (d' := d - 1) (As := [.int x2]) K.1 dX8_sheet_15 cw_X8_226 rfl (by omega) rfl (by simp [Value.category]) (m_X8_isSort K.1.wf (by omega)) (go_I ?_)
    refine V_if_eq (tgt := 27) K.1 dX8_sheet_18 (by decide) (fun c18 => ?_) (fun c18 => ?_)
    · refine V_bipush (v := -2) K.1 dX8_sheet_27 (by decide) ?_
      exact V_iret K dX8_sheet_29 (k1 c9 c18)
    · refine V_iload_n 3 K.1 dX8_sheet_21 rfl rfl ?_
      refine V_bipush (v := 80) K.1 dX8_sheet_22 (by decide) ?_
      refine V_icmp_le (tgt := 30) K.1 dX8_sheet_24 (by decide) (fun c24 => ?_) (fun c24 => ?_)
      · refine V_iload_n 3 K.1 dX8_sheet_30 rfl rfl ?_
        refine V_if_ge (tgt := 40) K.1 dX8_sheet_31 (by decide) (fun c31 => ?_) (fun c31 => ?_)
        · refine V_aload_n 0 K.1 dX8_sheet_40 rfl rfl ?_
          refine V_get (v := .ref (ω.2.2.1 1)) K.1 dX8_sheet_41 rfl rfl fw_X8_13 rfl rfl ?_
          refine V_iload_n 1 K.1 dX8_sheet_44 rfl rfl ?_
          exact V_sub [2, 3] rfl (k2 c9 c18 c24 c31)
        · refine V_aload_n 0 K.1 dX8_sheet_34 rfl rfl ?_
          refine V_iconst (v := 4) K.1 dX8_sheet_35 (by decide) ?_
          refine V_callV (d' := d - 1) (As := [.int (4 : Int32)]) K.1 dX8_sheet_36 cw_X8_229 rfl rfl rfl (by omega) rfl (by simp [Value.category]) (m_X8_failed K.1.wf (by omega)) (go_I ?_)
          exact V_iret K dX8_sheet_39 (k3 c9 c18 c24 c31)
      · refine V_bipush (v := -2) K.1 dX8_sheet_27 (by decide) ?_
        exact V_iret K dX8_sheet_29 (k4 c9 c18 c24)
  · refine V_iconst (v := -1) K.1 dX8_sheet_12 (by decide) ?_
    exact V_iret K dX8_sheet_13 (k5 c9)
set_option maxRecDepth 20000 in
theorem R_X8_sheet_46 {ω : WT} {κ : KT} {l : Launch} {d : Nat} {post : Option Value → St → Prop} {σ : St} {x2 x3 : Int32} {j : Nat} (hj : j < 4) (K : Cm ω κ l yX8_sheet cX8_sheet 4 d (some .int) post)
    (k1 : V ω κ 48 [] [.int x3, .int x2, .ref (ω.2.2.1 (2 + j))] σ) :
    V ω κ 46 [(2, .int x2), (3, .int x3)] [.ref (ω.2.2.1 (2 + j))] σ := by
  refine V_iload_n 0 K.1 dX8_sheet_46 rfl rfl ?_
  refine V_iload_n 1 K.1 dX8_sheet_47 rfl rfl ?_
  exact V_sub [] rfl k1
set_option maxRecDepth 20000 in
theorem R_X8_sheet_51 {ω : WT} {κ : KT} {l : Launch} {d : Nat} {post : Option Value → St → Prop} {σ : St}  (K : Cm ω κ l yX8_sheet cX8_sheet 4 d (some .int) post)
    (k1 : post (some (.int (1 : Int32))) σ) :
    V ω κ 51 [] [] σ := by
  refine V_iconst (v := 1) K.1 dX8_sheet_51 (by decide) ?_
  exact V_iret K dX8_sheet_52 k1
set_option maxRecDepth 20000 in
theorem C_X8_sheet_48 {ω : WT} {κ : KT} {l : Launch} {d : Nat} {post : Option Value → St → Prop} {σ : St} {s1 s2 : Int32} {j : Nat} (hj : j < 4) {post' : Option Value → St → Prop} (K : Cm ω κ l yX8_sheet cX8_sheet 4 d (some .int) post) (hdp : 1 ≤ d) (hM : Sp ω l yX6_renew cX6_renew 3 none (d - 1) [.ref (ω.2.2.1 (2 + j)), .int s1, .int s2] σ post')
    (kk : ∀ (v : Option Value) (σ' : St), post' v σ' → V ω κ 51 [] (v.toList ++ []) σ') : V ω κ 48 [] [.int s2, .int s1, .ref (ω.2.2.1 (2 + j))] σ := by
  exact V_callV (d' := d - 1) (As := [.int s1, .int s2]) (rest := []) K.1 dX8_sheet_48 cw_X8_232 (shO j hj) rfl rfl (by omega) rfl (by simp [Value.category]) hM (fun v σ' h => kk v σ' h)
theorem A_X8_sheet_45 {ω : WT} {κ : KT} {l : Launch} {d : Nat} {post : Option Value → St → Prop} {σ : St} {x2 x3 : Int32}  {j : Nat} (hj : j < 4) (K : Cm ω κ l yX8_sheet cX8_sheet 4 d (some .int) post)
    (kk : V ω κ 46 [(2, .int x2), (3, .int x3)] [.ref (ω.2.2.1 (2 + j))] σ) : V ω κ 45 [(2, .int x2), (3, .int x3)] [.int (nI j), .ref (ω.2.2.1 1)] σ := by
  refine V_aaload K.1 dX8_sheet_45 rfl (vp_in_nI hj (by omega)) ?_
  rw [nI_clamp (by omega)]
  exact kk
set_option maxRecDepth 20000 in
theorem R_X9_sheet_0 {ω : WT} {κ : KT} {l : Launch} {d : Nat} {post : Option Value → St → Prop} {σ : St} {x1 x2 x3 : Int32}  (K : Cm ω κ l yX9_sheet cX9_sheet 5 d (some .int) post) (hdp : 2 ≤ d)
    (k1 : ¬ ((if (x1 < (0 : Int32)) then (0 : Int32) else (if ((3 : Int32) < x1) then (0 : Int32) else (1 : Int32))) = 0) → ((if (x2 < (0 : Int32)) then (0 : Int32) else (if ((2 : Int32) < x2) then (0 : Int32) else (1 : Int32))) = 0) → post (some (.int (-2 : Int32))) (pS σ 2240 (0 : Int32)))
    (b2 : ¬ ((if (x1 < (0 : Int32)) then (0 : Int32) else (if ((3 : Int32) < x1) then (0 : Int32) else (1 : Int32))) = 0) → ¬ ((if (x2 < (0 : Int32)) then (0 : Int32) else (if ((2 : Int32) < x2) then (0 : Int32) else (1 : Int32))) = 0) → (x3 ≤ (80 : Int32)) → (0 ≤ x3) → vp_in x1 4)
    (b3 : ¬ ((if (x1 < (0 : Int32)) then (0 : Int32) else (if ((3 : Int32) < x1) then (0 : Int32) else (1 : Int32))) = 0) → ¬ ((if (x2 < (0 : Int32)) then (0 : Int32) else (if ((2 : Int32) < x2) then (0 : Int32) else (1 : Int32))) = 0) → (x3 ≤ (80 : Int32)) → (0 ≤ x3) → vp_in x1 4)
    (k4 : ¬ ((if (x1 < (0 : Int32)) then (0 : Int32) else (if ((3 : Int32) < x1) then (0 : Int32) else (1 : Int32))) = 0) → ¬ ((if (x2 < (0 : Int32)) then (0 : Int32) else (if ((2 : Int32) < x2) then (0 : Int32) else (1 : Int32))) = 0) → (x3 ≤ (80 : Int32)) → (0 ≤ x3) → V ω κ 57 [(0, .ref (ω.2.2.1 35)), (1, .int x1), (4, .int (0 : Int32))] [] (pA (pA (pS σ 2240 (0 : Int32)) 36 (x1).toNatClampNeg x2) 37 (x1).toNatClampNeg x3))
    (k5 : ¬ ((if (x1 < (0 : Int32)) then (0 : Int32) else (if ((3 : Int32) < x1) then (0 : Int32) else (1 : Int32))) = 0) → ¬ ((if (x2 < (0 : Int32)) then (0 : Int32) else (if ((2 : Int32) < x2) then (0 : Int32) else (1 : Int32))) = 0) → (x3 ≤ (80 : Int32)) → ¬ (0 ≤ x3) → post (some (.int ((-10 : Int32) - (4 : Int32)))) (pS (pS σ 2240 (0 : Int32)) 2240 (4 : Int32)))
    (k6 : ¬ ((if (x1 < (0 : Int32)) then (0 : Int32) else (if ((3 : Int32) < x1) then (0 : Int32) else (1 : Int32))) = 0) → ¬ ((if (x2 < (0 : Int32)) then (0 : Int32) else (if ((2 : Int32) < x2) then (0 : Int32) else (1 : Int32))) = 0) → ¬ (x3 ≤ (80 : Int32)) → post (some (.int (-2 : Int32))) (pS σ 2240 (0 : Int32)))
    (k7 : ((if (x1 < (0 : Int32)) then (0 : Int32) else (if ((3 : Int32) < x1) then (0 : Int32) else (1 : Int32))) = 0) → post (some (.int (-1 : Int32))) (pS σ 2240 (0 : Int32))) :
    V ω κ 0 [(0, .ref (ω.2.2.1 35)), (1, .int x1), (2, .int x2), (3, .int x3)] [] σ := by
  refine V_aload_n 0 K.1 dX9_sheet_0 rfl rfl ?_
  refine V_iconst (v := 0) K.1 dX9_sheet_1 (by decide) ?_
  refine V_putI (key := 2240) K.1 dX9_sheet_2 rfl rfl fw_X9_81 pw_X9_0 rfl rfl rfl rfl ?_
  refine V_iload_n 1 K.1 dX9_sheet_5 rfl rfl ?_
  refine V_callS (d' := d - 1) (As := [.int x1]) K.1 dX9_sheet_6 cw_X9_100 rfl (by omega) rfl (by simp [Value.category]) (m_X9_isSheet K.1.wf (by omega)) (go_I ?_)
  refine V_if_ne (tgt := 14) K.1 dX9_sheet_9 (by decide) (fun c9 => ?_) (fun c9 => ?_)
  · refine V_iload_n 2 K.1 dX9_sheet_14 rfl rfl ?_
    refine V_callS (d' := d - 1) (As := [.int x2]) K.1 dX9_sheet_15 cw_X9_104 rfl (by omega) rfl (by simp [Value.category]) (m_X9_isSort K.1.wf (by omega)) (go_I ?_)
    refine V_if_eq (tgt := 27) K.1 dX9_sheet_18 (by decide) (fun c18 => ?_) (fun c18 => ?_)
    · refine V_bipush (v := -2) K.1 dX9_sheet_27 (by decide) ?_
      exact V_iret K dX9_sheet_29 (k1 c9 c18)
    · refine V_iload_n 3 K.1 dX9_sheet_21 rfl rfl ?_
      refine V_bipush (v := 80) K.1 dX9_sheet_22 (by decide) ?_
      refine V_icmp_le (tgt := 30) K.1 dX9_sheet_24 (by decide) (fun c24 => ?_) (fun c24 => ?_)
      · refine V_iload_n 3 K.1 dX9_sheet_30 rfl rfl ?_
        refine V_if_ge (tgt := 40) K.1 dX9_sheet_31 (by decide) (fun c31 => ?_) (fun c31 => ?_)
        · refine V_aload_n 0 K.1 dX9_sheet_40 rfl rfl ?_
          refine V_get (v := .ref (ω.2.2.1 36)) K.1 dX9_sheet_41 rfl rfl fw_X9_9 rfl rfl ?_
          refine V_iload_n 1 K.1 dX9_sheet_44 rfl rfl ?_
          refine V_iload_n 2 K.1 dX9_sheet_45 rfl rfl ?_
          refine V_iastore K.1 dX9_sheet_46 rfl (b2 c9 c18 c24 c31) ?_
          refine V_aload_n 0 K.1 dX9_sheet_47 rfl rfl ?_
          refine V_get (v := .ref (ω.2.2.1 37)) K.1 dX9_sheet_48 rfl rfl fw_X9_13 rfl rfl ?_
          refine V_iload_n 1 K.1 dX9_sheet_51 rfl rfl ?_
          refine V_iload_n 3 K.1 dX9_sheet_52 rfl rfl ?_
          refine V_iastore K.1 dX9_sheet_53 rfl (b3 c9 c18 c24 c31) ?_
          refine V_iconst (v := 0) K.1 dX9_sheet_54 (by decide) ?_
          refine V_istore (L' := [(0, .ref (ω.2.2.1 35)), (1, .int x1), (2, .int x2), (3, .int x3), (4, .int (0 : Int32))]) K.1 dX9_sheet_55 (by decide) rfl ?_
          exact V_sub [0, 1, 4] rfl (k4 c9 c18 c24 c31)
        · refine V_aload_n 0 K.1 dX9_sheet_34 rfl rfl ?_
          refine V_iconst (v := 4) K.1 dX9_sheet_35 (by decide) ?_
          refine V_callV (d' := d - 1) (As := [.int (4 : Int32)]) K.1 dX9_sheet_36 cw_X9_111 rfl rfl rfl (by omega) rfl (by simp [Value.category]) (m_X9_fails K.1.wf (by omega)) (go_I ?_)
          exact V_iret K dX9_sheet_39 (k5 c9 c18 c24 c31)
      · refine V_bipush (v := -2) K.1 dX9_sheet_27 (by decide) ?_
        exact V_iret K dX9_sheet_29 (k6 c9 c18 c24)
  · refine V_iconst (v := -1) K.1 dX9_sheet_12 (by decide) ?_
    exact V_iret K dX9_sheet_13 (k7 c9)
set_option maxRecDepth 20000 in
theorem R_X9_sheet_57 {ω : WT} {κ : KT} {l : Launch} {d : Nat} {post : Option Value → St → Prop} {σ : St} {x1 x4 : Int32}  (K : Cm ω κ l yX9_sheet cX9_sheet 5 d (some .int) post)
    (k1 : ((80 : Int32) ≤ x4) → post (some (.int (1 : Int32))) σ)
    (b2 : ¬ ((80 : Int32) ≤ x4) → vp_in (((80 : Int32) * x1) + x4) 320)
    (k3 : ¬ ((80 : Int32) ≤ x4) → V ω κ 57 [(0, .ref (ω.2.2.1 35)), (1, .int x1), (4, .int (x4 + 1))] [] (pA σ 38 ((((80 : Int32) * x1) + x4)).toNatClampNeg (0 : Int32))) :
    V ω κ 57 [(0, .ref (ω.2.2.1 35)), (1, .int x1), (4, .int x4)] [] σ := by
  refine V_iload 2 K.1 dX9_sheet_57 rfl ?_
  refine V_bipush (v := 80) K.1 dX9_sheet_59 (by decide) ?_
  refine V_icmp_ge (tgt := 83) K.1 dX9_sheet_61 (by decide) (fun c61 => ?_) (fun c61 => ?_)
  · refine V_iconst (v := 1) K.1 dX9_sheet_83 (by decide) ?_
    exact V_iret K dX9_sheet_84 (k1 c61)
  · refine V_aload_n 0 K.1 dX9_sheet_64 rfl rfl ?_
    refine V_get (v := .ref (ω.2.2.1 38)) K.1 dX9_sheet_65 rfl rfl fw_X9_16 rfl rfl ?_
    refine V_bipush (v := 80) K.1 dX9_sheet_68 (by decide) ?_
    refine V_iload_n 1 K.1 dX9_sheet_70 rfl rfl ?_
    refine V_imul K.1 dX9_sheet_71 ?_
    refine V_iload 2 K.1 dX9_sheet_72 rfl ?_
    refine V_iadd K.1 dX9_sheet_74 ?_
    refine V_iconst (v := 0) K.1 dX9_sheet_75 (by decide) ?_
    refine V_iastore K.1 dX9_sheet_76 rfl (b2 c61) ?_
    refine V_iinc (v := (x4 + 1)) (L' := [(0, .ref (ω.2.2.1 35)), (1, .int x1), (4, .int (x4 + 1))]) 2 K.1 dX9_sheet_77 rfl rfl (by decide) rfl ?_
    refine V_goto (tgt := 57) K.1 dX9_sheet_80 (by decide) ?_
    exact (k3 c61)
set_option maxRecDepth 20000 in
theorem R_X8_lose_0 {ω : WT} {κ : KT} {l : Launch} {d : Nat} {post : Option Value → St → Prop} {σ : St} {x1 : Int32}  (K : Cm ω κ l yX8_lose cX8_lose 3 d (some .int) post) (hdp : 1 ≤ d)
    (k1 : ¬ ((if (x1 < 0) then (0 : Int32) else (if ((4 : Int32) ≤ x1) then (0 : Int32) else (1 : Int32))) = 0) → V ω κ 14 [(0, .ref (ω.2.2.1 0)), (1, .int x1)] [.int x1, .ref (ω.2.2.1 1)] σ)
    (k2 : ((if (x1 < 0) then (0 : Int32) else (if ((4 : Int32) ≤ x1) then (0 : Int32) else (1 : Int32))) = 0) → post (some (.int (-1 : Int32))) σ) :
    V ω κ 0 [(0, .ref (ω.2.2.1 0)), (1, .int x1)] [] σ := by
  refine V_iload_n 1 K.1 dX8_lose_0 rfl rfl ?_
  refine V_callS (d' := d - 1) (As := [.int x1]) K.1 dX8_lose_1 cw_X8_223 rfl (by omega) rfl (by simp [Value.category]) (m_X8_isSheet K.1.wf (by omega)) (go_I ?_)
  refine V_if_ne (tgt := 9) K.1 dX8_lose_4 (by decide) (fun c4 => ?_) (fun c4 => ?_)
  · refine V_aload_n 0 K.1 dX8_lose_9 rfl rfl ?_
    refine V_get (v := .ref (ω.2.2.1 1)) K.1 dX8_lose_10 rfl rfl fw_X8_13 rfl rfl ?_
    refine V_iload_n 1 K.1 dX8_lose_13 rfl rfl ?_
    exact (k1 c4)
  · refine V_iconst (v := -1) K.1 dX8_lose_7 (by decide) ?_
    exact V_iret K dX8_lose_8 (k2 c4)
set_option maxRecDepth 20000 in
theorem R_X8_lose_15 {ω : WT} {κ : KT} {l : Launch} {d : Nat} {post : Option Value → St → Prop} {σ : St} {x1 : Int32} {j : Nat} (hj : j < 4) (K : Cm ω κ l yX8_lose cX8_lose 3 d (some .int) post) (hdp : 1 ≤ d)
    (k1 : V ω κ 24 [(2, .int (if ((σ.1 (64 * (2 + j) + 1)) = (-1 : Int32)) then (0 : Int32) else (1 : Int32)))] [.int x1, .ref (ω.2.2.1 1)] σ) :
    V ω κ 15 [(0, .ref (ω.2.2.1 0)), (1, .int x1)] [.ref (ω.2.2.1 (2 + j))] σ := by
  refine V_callV (d' := d - 1) (As := []) K.1 dX8_lose_15 cw_X8_235 (shO j hj) rfl rfl (by omega) rfl (by simp [Value.category]) (m_X6_hasRow hj K.1.wf (by omega)) (go_I ?_)
  refine V_istore_n (L' := [(0, .ref (ω.2.2.1 0)), (1, .int x1), (2, .int (if ((σ.1 (64 * (2 + j) + 1)) = (-1 : Int32)) then (0 : Int32) else (1 : Int32)))]) K.1 dX8_lose_18 rfl (by decide) rfl ?_
  refine V_aload_n 0 K.1 dX8_lose_19 rfl rfl ?_
  refine V_get (v := .ref (ω.2.2.1 1)) K.1 dX8_lose_20 rfl rfl fw_X8_13 rfl rfl ?_
  refine V_iload_n 1 K.1 dX8_lose_23 rfl rfl ?_
  exact V_sub [2] rfl k1
set_option maxRecDepth 20000 in
theorem R_X8_lose_25 {ω : WT} {κ : KT} {l : Launch} {d : Nat} {post : Option Value → St → Prop} {σ : St} {x2 : Int32} {j : Nat} (hj : j < 4) (K : Cm ω κ l yX8_lose cX8_lose 3 d (some .int) post) (hdp : 1 ≤ d)
    (k2 : post (some (.int (if (x2 = 0) then (0 : Int32) else (1 : Int32)))) (pS σ (64 * (2 + j) + 1) (-1 : Int32))) :
    V ω κ 25 [(2, .int x2)] [.ref (ω.2.2.1 (2 + j))] σ := by
  refine V_callV (d' := d - 1) (As := []) K.1 dX8_lose_25 cw_X8_238 (shO j hj) rfl rfl (by omega) rfl (by simp [Value.category]) (m_X6_clear hj K.1.wf (by omega)) (go_V ?_)
  refine V_iload_n 0 K.1 dX8_lose_28 rfl rfl ?_
  refine V_join (J := 37) (S := []) (v := .int (if (x2 = 0) then (0 : Int32) else (1 : Int32))) (fun hJ1 => ?_) ?_
  · refine V_if_eq (tgt := 36) K.1 dX8_lose_29 (by decide) (fun c29 => ?_) (fun c29 => ?_)
    · refine V_iconst (v := 0) K.1 dX8_lose_36 (by decide) ?_
      exact V_top (if_pos c29) hJ1
    · refine V_iconst (v := 1) K.1 dX8_lose_32 (by decide) ?_
      refine V_goto (tgt := 37) K.1 dX8_lose_33 (by decide) ?_
      exact V_top (if_neg c29) hJ1
  exact V_iret K dX8_lose_37 k2
theorem A_X8_lose_14 {ω : WT} {κ : KT} {l : Launch} {d : Nat} {post : Option Value → St → Prop} {σ : St} {x1 : Int32}  {j : Nat} (hj : j < 4) (K : Cm ω κ l yX8_lose cX8_lose 3 d (some .int) post)
    (kk : V ω κ 15 [(0, .ref (ω.2.2.1 0)), (1, .int x1)] [.ref (ω.2.2.1 (2 + j))] σ) : V ω κ 14 [(0, .ref (ω.2.2.1 0)), (1, .int x1)] [.int (nI j), .ref (ω.2.2.1 1)] σ := by
  refine V_aaload K.1 dX8_lose_14 rfl (vp_in_nI hj (by omega)) ?_
  rw [nI_clamp (by omega)]
  exact kk
theorem A_X8_lose_24 {ω : WT} {κ : KT} {l : Launch} {d : Nat} {post : Option Value → St → Prop} {σ : St} {x2 : Int32}  {j : Nat} (hj : j < 4) (K : Cm ω κ l yX8_lose cX8_lose 3 d (some .int) post)
    (kk : V ω κ 25 [(2, .int x2)] [.ref (ω.2.2.1 (2 + j))] σ) : V ω κ 24 [(2, .int x2)] [.int (nI j), .ref (ω.2.2.1 1)] σ := by
  refine V_aaload K.1 dX8_lose_24 rfl (vp_in_nI hj (by omega)) ?_
  rw [nI_clamp (by omega)]
  exact kk
set_option maxRecDepth 20000 in
theorem R_X9_lose_0 {ω : WT} {κ : KT} {l : Launch} {d : Nat} {post : Option Value → St → Prop} {σ : St} {x1 : Int32}  (K : Cm ω κ l yX9_lose cX9_lose 3 d (some .int) post) (hdp : 2 ≤ d)
    (b1 : ¬ ((if (x1 < (0 : Int32)) then (0 : Int32) else (if ((3 : Int32) < x1) then (0 : Int32) else (1 : Int32))) = 0) → vp_in x1 4)
    (b3 : ¬ ((if (x1 < (0 : Int32)) then (0 : Int32) else (if ((3 : Int32) < x1) then (0 : Int32) else (1 : Int32))) = 0) → vp_in x1 4)
    (k4 : ¬ ((if (x1 < (0 : Int32)) then (0 : Int32) else (if ((3 : Int32) < x1) then (0 : Int32) else (1 : Int32))) = 0) → post (some (.int (if ((σ.2.1 36 (x1).toNatClampNeg) = (-9 : Int32)) then (0 : Int32) else (1 : Int32)))) (pA σ 36 (x1).toNatClampNeg (-9 : Int32)))
    (k5 : ((if (x1 < (0 : Int32)) then (0 : Int32) else (if ((3 : Int32) < x1) then (0 : Int32) else (1 : Int32))) = 0) → post (some (.int (-1 : Int32))) σ) :
    V ω κ 0 [(0, .ref (ω.2.2.1 35)), (1, .int x1)] [] σ := by
  refine V_iload_n 1 K.1 dX9_lose_0 rfl rfl ?_
  refine V_callS (d' := d - 1) (As := [.int x1]) K.1 dX9_lose_1 cw_X9_100 rfl (by omega) rfl (by simp [Value.category]) (m_X9_isSheet K.1.wf (by omega)) (go_I ?_)
  refine V_if_ne (tgt := 9) K.1 dX9_lose_4 (by decide) (fun c4 => ?_) (fun c4 => ?_)
  · refine V_aload_n 0 K.1 dX9_lose_9 rfl rfl ?_
    refine V_get (v := .ref (ω.2.2.1 36)) K.1 dX9_lose_10 rfl rfl fw_X9_9 rfl rfl ?_
    refine V_iload_n 1 K.1 dX9_lose_13 rfl rfl ?_
    refine V_iaload (v := (σ.2.1 36 (x1).toNatClampNeg)) K.1 dX9_lose_14 rfl (b1 c4) rfl ?_
    refine V_bipush (v := -9) K.1 dX9_lose_15 (by decide) ?_
    refine V_join (J := 25) (S := []) (v := .int (if ((σ.2.1 36 (x1).toNatClampNeg) = (-9 : Int32)) then (0 : Int32) else (1 : Int32))) (fun hJ2 => ?_) ?_
    · refine V_icmp_ne (tgt := 24) K.1 dX9_lose_17 (by decide) (fun c17 => ?_) (fun c17 => ?_)
      · refine V_iconst (v := 1) K.1 dX9_lose_24 (by decide) ?_
        exact V_top (if_neg c17) hJ2
      · refine V_iconst (v := 0) K.1 dX9_lose_20 (by decide) ?_
        refine V_goto (tgt := 25) K.1 dX9_lose_21 (by decide) ?_
        exact V_top (if_pos c17) hJ2
    refine V_istore_n (L' := [(0, .ref (ω.2.2.1 35)), (1, .int x1), (2, .int (if ((σ.2.1 36 (x1).toNatClampNeg) = (-9 : Int32)) then (0 : Int32) else (1 : Int32)))]) K.1 dX9_lose_25 rfl (by decide) rfl ?_
    refine V_aload_n 0 K.1 dX9_lose_26 rfl rfl ?_
    refine V_get (v := .ref (ω.2.2.1 36)) K.1 dX9_lose_27 rfl rfl fw_X9_9 rfl rfl ?_
    refine V_iload_n 1 K.1 dX9_lose_30 rfl rfl ?_
    refine V_bipush (v := -9) K.1 dX9_lose_31 (by decide) ?_
    refine V_iastore K.1 dX9_lose_33 rfl (b3 c4) ?_
    refine V_iload_n 2 K.1 dX9_lose_34 rfl rfl ?_
    exact V_iret K dX9_lose_35 (k4 c4)
  · refine V_iconst (v := -1) K.1 dX9_lose_7 (by decide) ?_
    exact V_iret K dX9_lose_8 (k5 c4)
set_option maxRecDepth 20000 in
theorem R_X8_put_0 {ω : WT} {κ : KT} {l : Launch} {d : Nat} {post : Option Value → St → Prop} {σ : St} {x1 x2 x3 : Int32}  (K : Cm ω κ l yX8_put cX8_put 5 d (some .int) post) (hdp : 1 ≤ d)
    (k1 : ¬ ((if (x1 < 0) then (0 : Int32) else (if ((4 : Int32) ≤ x1) then (0 : Int32) else (1 : Int32))) = 0) → V ω κ 19 [(0, .ref (ω.2.2.1 0)), (2, .int x2), (3, .int x3)] [.int x1, .ref (ω.2.2.1 1)] (pS σ 9 (0 : Int32)))
    (k2 : ((if (x1 < 0) then (0 : Int32) else (if ((4 : Int32) ≤ x1) then (0 : Int32) else (1 : Int32))) = 0) → post (some (.int (-1 : Int32))) (pS σ 9 (0 : Int32))) :
    V ω κ 0 [(0, .ref (ω.2.2.1 0)), (1, .int x1), (2, .int x2), (3, .int x3)] [] σ := by
  refine V_aload_n 0 K.1 dX8_put_0 rfl rfl ?_
  refine V_iconst (v := 0) K.1 dX8_put_1 (by decide) ?_
  refine V_putI (key := 9) K.1 dX8_put_2 rfl rfl fw_X8_220 pw_X8_9 rfl rfl rfl rfl ?_
  refine V_iload_n 1 K.1 dX8_put_5 rfl rfl ?_
  refine V_callS (d' := d - 1) (As := [.int x1]) K.1 dX8_put_6 cw_X8_223 rfl (by omega) rfl (by simp [Value.category]) (m_X8_isSheet K.1.wf (by omega)) (go_I ?_)
  refine V_if_ne (tgt := 14) K.1 dX8_put_9 (by decide) (fun c9 => ?_) (fun c9 => ?_)
  · refine V_aload_n 0 K.1 dX8_put_14 rfl rfl ?_
    refine V_get (v := .ref (ω.2.2.1 1)) K.1 dX8_put_15 rfl rfl fw_X8_13 rfl rfl ?_
    refine V_iload_n 1 K.1 dX8_put_18 rfl rfl ?_
    exact V_sub [0, 2, 3] rfl (k1 c9)
  · refine V_iconst (v := -1) K.1 dX8_put_12 (by decide) ?_
    exact V_iret K dX8_put_13 (k2 c9)
set_option maxRecDepth 20000 in
theorem R_X8_put_20 {ω : WT} {κ : KT} {l : Launch} {d : Nat} {post : Option Value → St → Prop} {σ : St} {x2 x3 : Int32} {j : Nat} (hj : j < 4) (K : Cm ω κ l yX8_put cX8_put 5 d (some .int) post) (hdp : 1 ≤ d)
    (p1 : ¬ ((if ((σ.1 (64 * (2 + j) + 1)) = (-1 : Int32)) then (0 : Int32) else (1 : Int32)) = 0) → ¬ ((if (x2 < 0) then (0 : Int32) else (if ((σ.1 (64 * (2 + j) + 1)) < x2) then (0 : Int32) else (if ((1 : Int32) < 0) then (0 : Int32) else (if (((σ.1 (64 * (2 + j) + 1)) - x2) < (1 : Int32)) then (0 : Int32) else (1 : Int32))))) = 0) → ¬ (x2 < 0) → ¬ ((σ.1 (64 * (2 + j) + 1)) ≤ x2) → vp_in x2 80)
    (k2 : ¬ ((if ((σ.1 (64 * (2 + j) + 1)) = (-1 : Int32)) then (0 : Int32) else (1 : Int32)) = 0) → ¬ ((if (x2 < 0) then (0 : Int32) else (if ((σ.1 (64 * (2 + j) + 1)) < x2) then (0 : Int32) else (if ((1 : Int32) < 0) then (0 : Int32) else (if (((σ.1 (64 * (2 + j) + 1)) - x2) < (1 : Int32)) then (0 : Int32) else (1 : Int32))))) = 0) → post (some (.int (1 : Int32))) (if (x2 < 0) then σ else (if ((σ.1 (64 * (2 + j) + 1)) ≤ x2) then σ else (pA σ (6 + j) (x2).toNatClampNeg (if ((σ.1 (64 * (2 + j) + 2)) = 0) then (x3).toInt8.toInt32 else (if ((σ.1 (64 * (2 + j) + 2)) = (1 : Int32)) then (x3).toInt16.toInt32 else x3))))))
    (k3 : ¬ ((if ((σ.1 (64 * (2 + j) + 1)) = (-1 : Int32)) then (0 : Int32) else (1 : Int32)) = 0) → ((if (x2 < 0) then (0 : Int32) else (if ((σ.1 (64 * (2 + j) + 1)) < x2) then (0 : Int32) else (if ((1 : Int32) < 0) then (0 : Int32) else (if (((σ.1 (64 * (2 + j) + 1)) - x2) < (1 : Int32)) then (0 : Int32) else (1 : Int32))))) = 0) → post (some (.int ((-10 : Int32) - (3 : Int32)))) (pS σ 9 (3 : Int32)))
    (k4 : ((if ((σ.1 (64 * (2 + j) + 1)) = (-1 : Int32)) then (0 : Int32) else (1 : Int32)) = 0) → post (some (.int ((-10 : Int32) - (1 : Int32)))) (pS σ 9 (1 : Int32))) :
    V ω κ 20 [(0, .ref (ω.2.2.1 0)), (2, .int x2), (3, .int x3)] [.ref (ω.2.2.1 (2 + j))] σ := by
  refine V_astore (L' := [(0, .ref (ω.2.2.1 0)), (2, .int x2), (3, .int x3), (4, .ref (ω.2.2.1 (2 + j)))]) K.1 dX8_put_20 (by decide) rfl ?_
  refine V_aload 3 K.1 dX8_put_22 rfl ?_
  refine V_callV (d' := d - 1) (As := []) K.1 dX8_put_24 cw_X8_235 (shO j hj) rfl rfl (by omega) rfl (by simp [Value.category]) (m_X6_hasRow hj K.1.wf (by omega)) (go_I ?_)
  refine V_if_ne (tgt := 36) K.1 dX8_put_27 (by decide) (fun c27 => ?_) (fun c27 => ?_)
  · refine V_aload 3 K.1 dX8_put_36 rfl ?_
    refine V_iload_n 1 K.1 dX8_put_38 rfl rfl ?_
    refine V_iconst (v := 1) K.1 dX8_put_39 (by decide) ?_
    refine V_callV (d' := d - 1) (As := [.int x2, .int (1 : Int32)]) K.1 dX8_put_40 cw_X8_241 (shO j hj) rfl rfl (by omega) rfl (by simp [Value.category]) (m_X6_hasCells hj K.1.wf (by omega)) (go_I ?_)
    refine V_if_ne (tgt := 52) K.1 dX8_put_43 (by decide) (fun c43 => ?_) (fun c43 => ?_)
    · refine V_aload 3 K.1 dX8_put_52 rfl ?_
      refine V_iload_n 1 K.1 dX8_put_54 rfl rfl ?_
      refine V_iload_n 2 K.1 dX8_put_55 rfl rfl ?_
      refine V_callV (d' := d - 1) (As := [.int x2, .int x3]) K.1 dX8_put_56 cw_X8_244 (shO j hj) rfl rfl (by omega) rfl (by simp [Value.category]) (m_X6_store hj K.1.wf (by omega) (p1 c27 c43)) (go_V ?_)
      refine V_iconst (v := 1) K.1 dX8_put_59 (by decide) ?_
      exact V_iret K dX8_put_60 (k2 c27 c43)
    · refine V_aload_n 0 K.1 dX8_put_46 rfl rfl ?_
      refine V_iconst (v := 3) K.1 dX8_put_47 (by decide) ?_
      refine V_callV (d' := d - 1) (As := [.int (3 : Int32)]) K.1 dX8_put_48 cw_X8_229 rfl rfl rfl (by omega) rfl (by simp [Value.category]) (m_X8_failed K.1.wf (by omega)) (go_I ?_)
      exact V_iret K dX8_put_51 (k3 c27 c43)
  · refine V_aload_n 0 K.1 dX8_put_30 rfl rfl ?_
    refine V_iconst (v := 1) K.1 dX8_put_31 (by decide) ?_
    refine V_callV (d' := d - 1) (As := [.int (1 : Int32)]) K.1 dX8_put_32 cw_X8_229 rfl rfl rfl (by omega) rfl (by simp [Value.category]) (m_X8_failed K.1.wf (by omega)) (go_I ?_)
    exact V_iret K dX8_put_35 (k4 c27)
theorem A_X8_put_19 {ω : WT} {κ : KT} {l : Launch} {d : Nat} {post : Option Value → St → Prop} {σ : St} {x2 x3 : Int32}  {j : Nat} (hj : j < 4) (K : Cm ω κ l yX8_put cX8_put 5 d (some .int) post)
    (kk : V ω κ 20 [(0, .ref (ω.2.2.1 0)), (2, .int x2), (3, .int x3)] [.ref (ω.2.2.1 (2 + j))] σ) : V ω κ 19 [(0, .ref (ω.2.2.1 0)), (2, .int x2), (3, .int x3)] [.int (nI j), .ref (ω.2.2.1 1)] σ := by
  refine V_aaload K.1 dX8_put_19 rfl (vp_in_nI hj (by omega)) ?_
  rw [nI_clamp (by omega)]
  exact kk
set_option maxRecDepth 20000 in
theorem R_X9_put_0 {ω : WT} {κ : KT} {l : Launch} {d : Nat} {post : Option Value → St → Prop} {σ : St} {x1 x2 x3 : Int32}  (K : Cm ω κ l yX9_put cX9_put 4 d (some .int) post) (hdp : 2 ≤ d)
    (b1 : ¬ ((if (x1 < (0 : Int32)) then (0 : Int32) else (if ((3 : Int32) < x1) then (0 : Int32) else (1 : Int32))) = 0) → vp_in x1 4)
    (b2 : ¬ ((if (x1 < (0 : Int32)) then (0 : Int32) else (if ((3 : Int32) < x1) then (0 : Int32) else (1 : Int32))) = 0) → ¬ ((σ.2.1 36 (x1).toNatClampNeg) = (-9 : Int32)) → vp_in x1 4)
    (b3 : ¬ ((if (x1 < (0 : Int32)) then (0 : Int32) else (if ((3 : Int32) < x1) then (0 : Int32) else (1 : Int32))) = 0) → ¬ ((σ.2.1 36 (x1).toNatClampNeg) = (-9 : Int32)) → ¬ ((if (x2 < (0 : Int32)) then (0 : Int32) else (if ((((pS σ 2240 (0 : Int32)).2.1 37 (x1).toNatClampNeg) - (1 : Int32)) < x2) then (0 : Int32) else (1 : Int32))) = 0) → vp_in x1 4)
    (b5 : ¬ ((if (x1 < (0 : Int32)) then (0 : Int32) else (if ((3 : Int32) < x1) then (0 : Int32) else (1 : Int32))) = 0) → ¬ ((σ.2.1 36 (x1).toNatClampNeg) = (-9 : Int32)) → ¬ ((if (x2 < (0 : Int32)) then (0 : Int32) else (if ((((pS σ 2240 (0 : Int32)).2.1 37 (x1).toNatClampNeg) - (1 : Int32)) < x2) then (0 : Int32) else (1 : Int32))) = 0) → ¬ ((σ.2.1 36 (x1).toNatClampNeg) = 0) → vp_in x1 4)
    (b6 : ¬ ((if (x1 < (0 : Int32)) then (0 : Int32) else (if ((3 : Int32) < x1) then (0 : Int32) else (1 : Int32))) = 0) → ¬ ((σ.2.1 36 (x1).toNatClampNeg) = (-9 : Int32)) → ¬ ((if (x2 < (0 : Int32)) then (0 : Int32) else (if ((((pS σ 2240 (0 : Int32)).2.1 37 (x1).toNatClampNeg) - (1 : Int32)) < x2) then (0 : Int32) else (1 : Int32))) = 0) → vp_in (((80 : Int32) * x1) + x2) 320)
    (k7 : ¬ ((if (x1 < (0 : Int32)) then (0 : Int32) else (if ((3 : Int32) < x1) then (0 : Int32) else (1 : Int32))) = 0) → ¬ ((σ.2.1 36 (x1).toNatClampNeg) = (-9 : Int32)) → ¬ ((if (x2 < (0 : Int32)) then (0 : Int32) else (if ((((pS σ 2240 (0 : Int32)).2.1 37 (x1).toNatClampNeg) - (1 : Int32)) < x2) then (0 : Int32) else (1 : Int32))) = 0) → post (some (.int (1 : Int32))) (pA (pS σ 2240 (0 : Int32)) 38 ((((80 : Int32) * x1) + x2)).toNatClampNeg (if ((σ.2.1 36 (x1).toNatClampNeg) = 0) then (x3).toInt8.toInt32 else (if ((σ.2.1 36 (x1).toNatClampNeg) = (1 : Int32)) then (x3).toInt16.toInt32 else x3))))
    (k8 : ¬ ((if (x1 < (0 : Int32)) then (0 : Int32) else (if ((3 : Int32) < x1) then (0 : Int32) else (1 : Int32))) = 0) → ¬ ((σ.2.1 36 (x1).toNatClampNeg) = (-9 : Int32)) → ((if (x2 < (0 : Int32)) then (0 : Int32) else (if ((((pS σ 2240 (0 : Int32)).2.1 37 (x1).toNatClampNeg) - (1 : Int32)) < x2) then (0 : Int32) else (1 : Int32))) = 0) → post (some (.int ((-10 : Int32) - (3 : Int32)))) (pS (pS σ 2240 (0 : Int32)) 2240 (3 : Int32)))
    (k9 : ¬ ((if (x1 < (0 : Int32)) then (0 : Int32) else (if ((3 : Int32) < x1) then (0 : Int32) else (1 : Int32))) = 0) → ((σ.2.1 36 (x1).toNatClampNeg) = (-9 : Int32)) → post (some (.int ((-10 : Int32) - (1 : Int32)))) (pS (pS σ 2240 (0 : Int32)) 2240 (1 : Int32)))
    (k10 : ((if (x1 < (0 : Int32)) then (0 : Int32) else (if ((3 : Int32) < x1) then (0 : Int32) else (1 : Int32))) = 0) → post (some (.int (-1 : Int32))) (pS σ 2240 (0 : Int32))) :
    V ω κ 0 [(0, .ref (ω.2.2.1 35)), (1, .int x1), (2, .int x2), (3, .int x3)] [] σ := by
  refine V_aload_n 0 K.1 dX9_put_0 rfl rfl ?_
  refine V_iconst (v := 0) K.1 dX9_put_1 (by decide) ?_
  refine V_putI (key := 2240) K.1 dX9_put_2 rfl rfl fw_X9_81 pw_X9_0 rfl rfl rfl rfl ?_
  refine V_iload_n 1 K.1 dX9_put_5 rfl rfl ?_
  refine V_callS (d' := d - 1) (As := [.int x1]) K.1 dX9_put_6 cw_X9_100 rfl (by omega) rfl (by simp [Value.category]) (m_X9_isSheet K.1.wf (by omega)) (go_I ?_)
  refine V_if_ne (tgt := 14) K.1 dX9_put_9 (by decide) (fun c9 => ?_) (fun c9 => ?_)
  · refine V_aload_n 0 K.1 dX9_put_14 rfl rfl ?_
    refine V_get (v := .ref (ω.2.2.1 36)) K.1 dX9_put_15 rfl rfl fw_X9_9 rfl rfl ?_
    refine V_iload_n 1 K.1 dX9_put_18 rfl rfl ?_
    refine V_iaload (v := (σ.2.1 36 (x1).toNatClampNeg)) K.1 dX9_put_19 rfl (b1 c9) rfl ?_
    refine V_bipush (v := -9) K.1 dX9_put_20 (by decide) ?_
    refine V_icmp_ne (tgt := 31) K.1 dX9_put_22 (by decide) (fun c22 => ?_) (fun c22 => ?_)
    · refine V_iload_n 2 K.1 dX9_put_31 rfl rfl ?_
      refine V_iconst (v := 0) K.1 dX9_put_32 (by decide) ?_
      refine V_aload_n 0 K.1 dX9_put_33 rfl rfl ?_
      refine V_get (v := .ref (ω.2.2.1 37)) K.1 dX9_put_34 rfl rfl fw_X9_13 rfl rfl ?_
      refine V_iload_n 1 K.1 dX9_put_37 rfl rfl ?_
      refine V_iaload (v := (σ.2.1 37 (x1).toNatClampNeg)) K.1 dX9_put_38 rfl (b2 c9 c22) rfl ?_
      refine V_iconst (v := 1) K.1 dX9_put_39 (by decide) ?_
      refine V_isub K.1 dX9_put_40 ?_
      refine V_callS (d' := d - 1) (As := [.int x2, .int (0 : Int32), .int ((σ.2.1 37 (x1).toNatClampNeg) - (1 : Int32))]) K.1 dX9_put_41 cw_X9_87 rfl (by omega) rfl (by simp [Value.category]) (m_X9_within K.1.wf (by omega)) (go_I ?_)
      refine V_if_ne (tgt := 53) K.1 dX9_put_44 (by decide) (fun c44 => ?_) (fun c44 => ?_)
      · refine V_aload_n 0 K.1 dX9_put_53 rfl rfl ?_
        refine V_get (v := .ref (ω.2.2.1 38)) K.1 dX9_put_54 rfl rfl fw_X9_16 rfl rfl ?_
        refine V_bipush (v := 80) K.1 dX9_put_57 (by decide) ?_
        refine V_iload_n 1 K.1 dX9_put_59 rfl rfl ?_
        refine V_imul K.1 dX9_put_60 ?_
        refine V_iload_n 2 K.1 dX9_put_61 rfl rfl ?_
        refine V_iadd K.1 dX9_put_62 ?_
        refine V_aload_n 0 K.1 dX9_put_63 rfl rfl ?_
        refine V_get (v := .ref (ω.2.2.1 36)) K.1 dX9_put_64 rfl rfl fw_X9_9 rfl rfl ?_
        refine V_iload_n 1 K.1 dX9_put_67 rfl rfl ?_
        refine V_iaload (v := (σ.2.1 36 (x1).toNatClampNeg)) K.1 dX9_put_68 rfl (b3 c9 c22 c44) rfl ?_
        refine V_join (J := 93) (S := [.int (((80 : Int32) * x1) + x2), .ref (ω.2.2.1 38)]) (v := .int (if ((σ.2.1 36 (x1).toNatClampNeg) = 0) then (x3).toInt8.toInt32 else (if ((σ.2.1 36 (x1).toNatClampNeg) = (1 : Int32)) then (x3).toInt16.toInt32 else x3))) (fun hJ4 => ?_) ?_
        · refine V_if_ne (tgt := 77) K.1 dX9_put_69 (by decide) (fun c69 => ?_) (fun c69 => ?_)
          · refine V_aload_n 0 K.1 dX9_put_77 rfl rfl ?_
            refine V_get (v := .ref (ω.2.2.1 36)) K.1 dX9_put_78 rfl rfl fw_X9_9 rfl rfl ?_
            refine V_iload_n 1 K.1 dX9_put_81 rfl rfl ?_
            refine V_iaload (v := (σ.2.1 36 (x1).toNatClampNeg)) K.1 dX9_put_82 rfl (b5 c9 c22 c44 c69) rfl ?_
            refine V_iconst (v := 1) K.1 dX9_put_83 (by decide) ?_
            refine V_icmp_ne (tgt := 92) K.1 dX9_put_84 (by decide) (fun c84 => ?_) (fun c84 => ?_)
            · refine V_iload_n 3 K.1 dX9_put_92 rfl rfl ?_
              exact V_top ((if_neg c69).trans (if_neg c84)) hJ4
            · refine V_iload_n 3 K.1 dX9_put_87 rfl rfl ?_
              refine V_i2s K.1 dX9_put_88 ?_
              refine V_goto (tgt := 93) K.1 dX9_put_89 (by decide) ?_
              exact V_top ((if_neg c69).trans (if_pos c84)) hJ4
          · refine V_iload_n 3 K.1 dX9_put_72 rfl rfl ?_
            refine V_i2b K.1 dX9_put_73 ?_
            refine V_goto (tgt := 93) K.1 dX9_put_74 (by decide) ?_
            exact V_top (if_pos c69) hJ4
        refine V_iastore K.1 dX9_put_93 rfl (b6 c9 c22 c44) ?_
        refine V_iconst (v := 1) K.1 dX9_put_94 (by decide) ?_
        exact V_iret K dX9_put_95 (k7 c9 c22 c44)
      · refine V_aload_n 0 K.1 dX9_put_47 rfl rfl ?_
        refine V_iconst (v := 3) K.1 dX9_put_48 (by decide) ?_
        refine V_callV (d' := d - 1) (As := [.int (3 : Int32)]) K.1 dX9_put_49 cw_X9_111 rfl rfl rfl (by omega) rfl (by simp [Value.category]) (m_X9_fails K.1.wf (by omega)) (go_I ?_)
        exact V_iret K dX9_put_52 (k8 c9 c22 c44)
    · refine V_aload_n 0 K.1 dX9_put_25 rfl rfl ?_
      refine V_iconst (v := 1) K.1 dX9_put_26 (by decide) ?_
      refine V_callV (d' := d - 1) (As := [.int (1 : Int32)]) K.1 dX9_put_27 cw_X9_111 rfl rfl rfl (by omega) rfl (by simp [Value.category]) (m_X9_fails K.1.wf (by omega)) (go_I ?_)
      exact V_iret K dX9_put_30 (k9 c9 c22)
  · refine V_iconst (v := -1) K.1 dX9_put_12 (by decide) ?_
    exact V_iret K dX9_put_13 (k10 c9)
set_option maxRecDepth 20000 in
theorem R_X8_cell_0 {ω : WT} {κ : KT} {l : Launch} {d : Nat} {post : Option Value → St → Prop} {σ : St} {x1 x2 x3 : Int32}  (K : Cm ω κ l yX8_cell cX8_cell 4 d (some .long) post)
    (k1 : V ω κ 5 [(0, .ref (ω.2.2.1 0)), (1, .int x1), (2, .int x2)] [.int (1 : Int32), .int x2, .int x3, .int x1, .ref (ω.2.2.1 0)] σ) :
    V ω κ 0 [(0, .ref (ω.2.2.1 0)), (1, .int x1), (2, .int x2), (3, .int x3)] [] σ := by
  refine V_aload_n 0 K.1 dX8_cell_0 rfl rfl ?_
  refine V_iload_n 1 K.1 dX8_cell_1 rfl rfl ?_
  refine V_iload_n 3 K.1 dX8_cell_2 rfl rfl ?_
  refine V_iload_n 2 K.1 dX8_cell_3 rfl rfl ?_
  refine V_iconst (v := 1) K.1 dX8_cell_4 (by decide) ?_
  exact V_sub [0, 1, 2] rfl k1
set_option maxRecDepth 20000 in
theorem R_X8_cell_8 {ω : WT} {κ : KT} {l : Launch} {d : Nat} {post : Option Value → St → Prop} {σ : St} {x1 x2 s0 : Int32}  (K : Cm ω κ l yX8_cell cX8_cell 4 d (some .long) post)
    (k1 : (s0 = 0) → V ω κ 20 [(2, .int x2)] [.int x1, .ref (ω.2.2.1 1)] σ)
    (k2 : ¬ (s0 = 0) → post (some (.long (-9223372036854775808 : Int64))) σ) :
    V ω κ 8 [(0, .ref (ω.2.2.1 0)), (1, .int x1), (2, .int x2)] [.int s0] σ := by
  refine V_if_eq (tgt := 15) K.1 dX8_cell_8 (by decide) (fun c8 => ?_) (fun c8 => ?_)
  · refine V_aload_n 0 K.1 dX8_cell_15 rfl rfl ?_
    refine V_get (v := .ref (ω.2.2.1 1)) K.1 dX8_cell_16 rfl rfl fw_X8_13 rfl rfl ?_
    refine V_iload_n 1 K.1 dX8_cell_19 rfl rfl ?_
    exact V_sub [2] rfl (k1 c8)
  · refine V_ldc2_w K.1 dX8_cell_11 cn_X8_194 ?_
    exact V_lret K dX8_cell_14 (k2 c8)
set_option maxRecDepth 20000 in
theorem R_X8_cell_21 {ω : WT} {κ : KT} {l : Launch} {d : Nat} {post : Option Value → St → Prop} {σ : St} {x2 : Int32} {j : Nat} (hj : j < 4) (K : Cm ω κ l yX8_cell cX8_cell 4 d (some .long) post) (hdp : 1 ≤ d)
    (p1 : ¬ (x2 < 0) → ¬ ((σ.1 (64 * (2 + j) + 1)) ≤ x2) → vp_in x2 80)
    (k2 : post (some (.long ((if (x2 < 0) then (0 : Int32) else (if ((σ.1 (64 * (2 + j) + 1)) ≤ x2) then (0 : Int32) else (σ.2.1 (6 + j) (x2).toNatClampNeg)))).toInt64)) σ) :
    V ω κ 21 [(2, .int x2)] [.ref (ω.2.2.1 (2 + j))] σ := by
  refine V_iload_n 0 K.1 dX8_cell_21 rfl rfl ?_
  refine V_callV (d' := d - 1) (As := [.int x2]) K.1 dX8_cell_22 cw_X8_247 (shO j hj) rfl rfl (by omega) rfl (by simp [Value.category]) (m_X6_at hj K.1.wf (by omega) p1) (go_I ?_)
  refine V_i2l K.1 dX8_cell_25 ?_
  exact V_lret K dX8_cell_26 k2
set_option maxRecDepth 20000 in
theorem C_X8_cell_5 {ω : WT} {κ : KT} {l : Launch} {d : Nat} {post : Option Value → St → Prop} {σ : St} {x1 x2 s1 s2 s3 s4 : Int32}  {post' : Option Value → St → Prop} (K : Cm ω κ l yX8_cell cX8_cell 4 d (some .long) post) (hdp : 1 ≤ d) (hM : Sp ω l yX8_whyNotTaken cX8_whyNotTaken 6 (some .int) (d - 1) [.ref (ω.2.2.1 0), .int s1, .int s2, .int s3, .int s4] σ post')
    (kk : ∀ (v : Option Value) (σ' : St), post' v σ' → V ω κ 8 [(0, .ref (ω.2.2.1 0)), (1, .int x1), (2, .int x2)] (v.toList ++ []) σ') : V ω κ 5 [(0, .ref (ω.2.2.1 0)), (1, .int x1), (2, .int x2)] [.int s4, .int s3, .int s2, .int s1, .ref (ω.2.2.1 0)] σ := by
  exact V_callV (d' := d - 1) (As := [.int s1, .int s2, .int s3, .int s4]) (rest := []) K.1 dX8_cell_5 cw_X8_73 rfl rfl rfl (by omega) rfl (by simp [Value.category]) hM (fun v σ' h => kk v σ' h)
theorem A_X8_cell_20 {ω : WT} {κ : KT} {l : Launch} {d : Nat} {post : Option Value → St → Prop} {σ : St} {x2 : Int32}  {j : Nat} (hj : j < 4) (K : Cm ω κ l yX8_cell cX8_cell 4 d (some .long) post)
    (kk : V ω κ 21 [(2, .int x2)] [.ref (ω.2.2.1 (2 + j))] σ) : V ω κ 20 [(2, .int x2)] [.int (nI j), .ref (ω.2.2.1 1)] σ := by
  refine V_aaload K.1 dX8_cell_20 rfl (vp_in_nI hj (by omega)) ?_
  rw [nI_clamp (by omega)]
  exact kk
set_option maxRecDepth 20000 in
theorem R_X9_cell_0 {ω : WT} {κ : KT} {l : Launch} {d : Nat} {post : Option Value → St → Prop} {σ : St} {x1 x2 x3 : Int32}  (K : Cm ω κ l yX9_cell cX9_cell 4 d (some .long) post) (hdp : 2 ≤ d)
    (k1 : ((if (x1 < (0 : Int32)) then (0 : Int32) else (if ((3 : Int32) < x1) then (0 : Int32) else (1 : Int32))) = 0) → post (some (.long (-9223372036854775808 : Int64))) (pS σ 2240 (0 : Int32)))
    (b2 : ¬ ((if (x1 < (0 : Int32)) then (0 : Int32) else (if ((3 : Int32) < x1) then (0 : Int32) else (1 : Int32))) = 0) → ¬ ((if (x3 < (0 : Int32)) then (0 : Int32) else (if ((2 : Int32) < x3) then (0 : Int32) else (1 : Int32))) = 0) → vp_in x1 4)
    (b3 : ¬ ((if (x1 < (0 : Int32)) then (0 : Int32) else (if ((3 : Int32) < x1) then (0 : Int32) else (1 : Int32))) = 0) → ¬ ((if (x3 < (0 : Int32)) then (0 : Int32) else (if ((2 : Int32) < x3) then (0 : Int32) else (1 : Int32))) = 0) → ((σ.2.1 36 (x1).toNatClampNeg) = (-9 : Int32)) → vp_in x1 4)
    (b4 : ¬ ((if (x1 < (0 : Int32)) then (0 : Int32) else (if ((3 : Int32) < x1) then (0 : Int32) else (1 : Int32))) = 0) → ¬ ((if (x3 < (0 : Int32)) then (0 : Int32) else (if ((2 : Int32) < x3) then (0 : Int32) else (1 : Int32))) = 0) → ((σ.2.1 36 (x1).toNatClampNeg) = (-9 : Int32)) → ¬ ((σ.2.1 36 (x1).toNatClampNeg) = (-9 : Int32)) → vp_in x1 4)
    (b5 : ¬ ((if (x1 < (0 : Int32)) then (0 : Int32) else (if ((3 : Int32) < x1) then (0 : Int32) else (1 : Int32))) = 0) → ¬ ((if (x3 < (0 : Int32)) then (0 : Int32) else (if ((2 : Int32) < x3) then (0 : Int32) else (1 : Int32))) = 0) → ((σ.2.1 36 (x1).toNatClampNeg) = (-9 : Int32)) → ¬ ((σ.2.1 36 (x1).toNatClampNeg) = (-9 : Int32)) → ¬ ((if (x2 < (0 : Int32)) then (0 : Int32) else (if ((((pS σ 2240 (0 : Int32)).2.1 37 (x1).toNatClampNeg) - (1 : Int32)) < x2) then (0 : Int32) else (1 : Int32))) = 0) → vp_in (((80 : Int32) * x1) + x2) 320)
    (k6 : ¬ ((if (x1 < (0 : Int32)) then (0 : Int32) else (if ((3 : Int32) < x1) then (0 : Int32) else (1 : Int32))) = 0) → ¬ ((if (x3 < (0 : Int32)) then (0 : Int32) else (if ((2 : Int32) < x3) then (0 : Int32) else (1 : Int32))) = 0) → ((σ.2.1 36 (x1).toNatClampNeg) = (-9 : Int32)) → ¬ ((σ.2.1 36 (x1).toNatClampNeg) = (-9 : Int32)) → ¬ ((if (x2 < (0 : Int32)) then (0 : Int32) else (if ((((pS σ 2240 (0 : Int32)).2.1 37 (x1).toNatClampNeg) - (1 : Int32)) < x2) then (0 : Int32) else (1 : Int32))) = 0) → post (some (.long ((σ.2.1 38 ((((80 : Int32) * x1) + x2)).toNatClampNeg)).toInt64)) (pS σ 2240 (0 : Int32)))
    (k7 : ¬ ((if (x1 < (0 : Int32)) then (0 : Int32) else (if ((3 : Int32) < x1) then (0 : Int32) else (1 : Int32))) = 0) → ¬ ((if (x3 < (0 : Int32)) then (0 : Int32) else (if ((2 : Int32) < x3) then (0 : Int32) else (1 : Int32))) = 0) → ((σ.2.1 36 (x1).toNatClampNeg) = (-9 : Int32)) → ¬ ((σ.2.1 36 (x1).toNatClampNeg) = (-9 : Int32)) → ((if (x2 < (0 : Int32)) then (0 : Int32) else (if ((((pS σ 2240 (0 : Int32)).2.1 37 (x1).toNatClampNeg) - (1 : Int32)) < x2) then (0 : Int32) else (1 : Int32))) = 0) → post (some (.long (-9223372036854775808 : Int64))) (pS (pS σ 2240 (0 : Int32)) 2240 (3 : Int32)))
    (k8 : ¬ ((if (x1 < (0 : Int32)) then (0 : Int32) else (if ((3 : Int32) < x1) then (0 : Int32) else (1 : Int32))) = 0) → ¬ ((if (x3 < (0 : Int32)) then (0 : Int32) else (if ((2 : Int32) < x3) then (0 : Int32) else (1 : Int32))) = 0) → ((σ.2.1 36 (x1).toNatClampNeg) = (-9 : Int32)) → ((σ.2.1 36 (x1).toNatClampNeg) = (-9 : Int32)) → post (some (.long (-9223372036854775808 : Int64))) (pS (pS σ 2240 (0 : Int32)) 2240 (1 : Int32)))
    (b9 : ¬ ((if (x1 < (0 : Int32)) then (0 : Int32) else (if ((3 : Int32) < x1) then (0 : Int32) else (1 : Int32))) = 0) → ¬ ((if (x3 < (0 : Int32)) then (0 : Int32) else (if ((2 : Int32) < x3) then (0 : Int32) else (1 : Int32))) = 0) → ¬ ((σ.2.1 36 (x1).toNatClampNeg) = (-9 : Int32)) → vp_in x1 4)
    (b10 : ¬ ((if (x1 < (0 : Int32)) then (0 : Int32) else (if ((3 : Int32) < x1) then (0 : Int32) else (1 : Int32))) = 0) → ¬ ((if (x3 < (0 : Int32)) then (0 : Int32) else (if ((2 : Int32) < x3) then (0 : Int32) else (1 : Int32))) = 0) → ¬ ((σ.2.1 36 (x1).toNatClampNeg) = (-9 : Int32)) → ((σ.2.1 36 (x1).toNatClampNeg) = x3) → vp_in x1 4)
    (b11 : ¬ ((if (x1 < (0 : Int32)) then (0 : Int32) else (if ((3 : Int32) < x1) then (0 : Int32) else (1 : Int32))) = 0) → ¬ ((if (x3 < (0 : Int32)) then (0 : Int32) else (if ((2 : Int32) < x3) then (0 : Int32) else (1 : Int32))) = 0) → ¬ ((σ.2.1 36 (x1).toNatClampNeg) = (-9 : Int32)) → ((σ.2.1 36 (x1).toNatClampNeg) = x3) → ¬ ((σ.2.1 36 (x1).toNatClampNeg) = (-9 : Int32)) → vp_in x1 4)
    (b12 : ¬ ((if (x1 < (0 : Int32)) then (0 : Int32) else (if ((3 : Int32) < x1) then (0 : Int32) else (1 : Int32))) = 0) → ¬ ((if (x3 < (0 : Int32)) then (0 : Int32) else (if ((2 : Int32) < x3) then (0 : Int32) else (1 : Int32))) = 0) → ¬ ((σ.2.1 36 (x1).toNatClampNeg) = (-9 : Int32)) → ((σ.2.1 36 (x1).toNatClampNeg) = x3) → ¬ ((σ.2.1 36 (x1).toNatClampNeg) = (-9 : Int32)) → ¬ ((if (x2 < (0 : Int32)) then (0 : Int32) else (if ((((pS σ 2240 (0 : Int32)).2.1 37 (x1).toNatClampNeg) - (1 : Int32)) < x2) then (0 : Int32) else (1 : Int32))) = 0) → vp_in (((80 : Int32) * x1) + x2) 320)
    (k13 : ¬ ((if (x1 < (0 : Int32)) then (0 : Int32) else (if ((3 : Int32) < x1) then (0 : Int32) else (1 : Int32))) = 0) → ¬ ((if (x3 < (0 : Int32)) then (0 : Int32) else (if ((2 : Int32) < x3) then (0 : Int32) else (1 : Int32))) = 0) → ¬ ((σ.2.1 36 (x1).toNatClampNeg) = (-9 : Int32)) → ((σ.2.1 36 (x1).toNatClampNeg) = x3) → ¬ ((σ.2.1 36 (x1).toNatClampNeg) = (-9 : Int32)) → ¬ ((if (x2 < (0 : Int32)) then (0 : Int32) else (if ((((pS σ 2240 (0 : Int32)).2.1 37 (x1).toNatClampNeg) - (1 : Int32)) < x2) then (0 : Int32) else (1 : Int32))) = 0) → post (some (.long ((σ.2.1 38 ((((80 : Int32) * x1) + x2)).toNatClampNeg)).toInt64)) (pS σ 2240 (0 : Int32)))
    (k14 : ¬ ((if (x1 < (0 : Int32)) then (0 : Int32) else (if ((3 : Int32) < x1) then (0 : Int32) else (1 : Int32))) = 0) → ¬ ((if (x3 < (0 : Int32)) then (0 : Int32) else (if ((2 : Int32) < x3) then (0 : Int32) else (1 : Int32))) = 0) → ¬ ((σ.2.1 36 (x1).toNatClampNeg) = (-9 : Int32)) → ((σ.2.1 36 (x1).toNatClampNeg) = x3) → ¬ ((σ.2.1 36 (x1).toNatClampNeg) = (-9 : Int32)) → ((if (x2 < (0 : Int32)) then (0 : Int32) else (if ((((pS σ 2240 (0 : Int32)).2.1 37 (x1).toNatClampNeg) - (1 : Int32)) < x2) then (0 : Int32) else (1 : Int32))) = 0) → post (some (.long (-9223372036854775808 : Int64))) (pS (pS σ 2240 (0 : Int32)) 2240 (3 : Int32)))
    (k15 : ¬ ((if (x1 < (0 : Int32)) then (0 : Int32) else (if ((3 : Int32) < x1) then (0 : Int32) else (1 : Int32))) = 0) → ¬ ((if (x3 < (0 : Int32)) then (0 : Int32) else (if ((2 : Int32) < x3) then (0 : Int32) else (1 : Int32))) = 0) → ¬ ((σ.2.1 36 (x1).toNatClampNeg) = (-9 : Int32)) → ((σ.2.1 36 (x1).toNatClampNeg) = x3) → ((σ.2.1 36 (x1).toNatClampNeg) = (-9 : Int32)) → post (some (.long (-9223372036854775808 : Int64))) (pS (pS σ 2240 (0 : Int32)) 2240 (1 : Int32)))
    (k16 : ¬ ((if (x1 < (0 : Int32)) then (0 : Int32) else (if ((3 : Int32) < x1) then (0 : Int32) else (1 : Int32))) = 0) → ¬ ((if (x3 < (0 : Int32)) then (0 : Int32) else (if ((2 : Int32) < x3) then (0 : Int32) else (1 : Int32))) = 0) → ¬ ((σ.2.1 36 (x1).toNatClampNeg) = (-9 : Int32)) → ¬ ((σ.2.1 36 (x1).toNatClampNeg) = x3) → post (some (.long (-9223372036854775808 : Int64))) (pS (pS σ 2240 (0 : Int32)) 2240 (2 : Int32)))
    (k17 : ¬ ((if (x1 < (0 : Int32)) then (0 : Int32) else (if ((3 : Int32) < x1) then (0 : Int32) else (1 : Int32))) = 0) → ((if (x3 < (0 : Int32)) then (0 : Int32) else (if ((2 : Int32) < x3) then (0 : Int32) else (1 : Int32))) = 0) → post (some (.long (-9223372036854775808 : Int64))) (pS σ 2240 (0 : Int32))) :
    V ω κ 0 [(0, .ref (ω.2.2.1 35)), (1, .int x1), (2, .int x2), (3, .int x3)] [] σ := by
  refine V_aload_n 0 K.1 dX9_cell_0 rfl rfl ?_
  refine V_iconst (v := 0) K.1 dX9_cell_1 (by decide) ?_
  refine V_putI (key := 2240) K.1 dX9_cell_2 rfl rfl fw_X9_81 pw_X9_0 rfl rfl rfl rfl ?_
  refine V_iload_n 1 K.1 dX9_cell_5 rfl rfl ?_
  refine V_callS (d' := d - 1) (As := [.int x1]) K.1 dX9_cell_6 cw_X9_100 rfl (by omega) rfl (by simp [Value.category]) (m_X9_isSheet K.1.wf (by omega)) (go_I ?_)
  refine V_if_eq (tgt := 19) K.1 dX9_cell_9 (by decide) (fun c9 => ?_) (fun c9 => ?_)
  · refine V_ldc2_w K.1 dX9_cell_19 cn_X9_85 ?_
    exact V_lret K dX9_cell_22 (k1 c9)
  · refine V_iload_n 3 K.1 dX9_cell_12 rfl rfl ?_
    refine V_callS (d' := d - 1) (As := [.int x3]) K.1 dX9_cell_13 cw_X9_104 rfl (by omega) rfl (by simp [Value.category]) (m_X9_isSort K.1.wf (by omega)) (go_I ?_)
    refine V_if_ne (tgt := 23) K.1 dX9_cell_16 (by decide) (fun c16 => ?_) (fun c16 => ?_)
    · refine V_aload_n 0 K.1 dX9_cell_23 rfl rfl ?_
      refine V_get (v := .ref (ω.2.2.1 36)) K.1 dX9_cell_24 rfl rfl fw_X9_9 rfl rfl ?_
      refine V_iload_n 1 K.1 dX9_cell_27 rfl rfl ?_
      refine V_iaload (v := (σ.2.1 36 (x1).toNatClampNeg)) K.1 dX9_cell_28 rfl (b2 c9 c16) rfl ?_
      refine V_bipush (v := -9) K.1 dX9_cell_29 (by decide) ?_
      refine V_icmp_eq (tgt := 50) K.1 dX9_cell_31 (by decide) (fun c31 => ?_) (fun c31 => ?_)
      · refine V_aload_n 0 K.1 dX9_cell_50 rfl rfl ?_
        refine V_get (v := .ref (ω.2.2.1 36)) K.1 dX9_cell_51 rfl rfl fw_X9_9 rfl rfl ?_
        refine V_iload_n 1 K.1 dX9_cell_54 rfl rfl ?_
        refine V_iaload (v := (σ.2.1 36 (x1).toNatClampNeg)) K.1 dX9_cell_55 rfl (b3 c9 c16 c31) rfl ?_
        refine V_bipush (v := -9) K.1 dX9_cell_56 (by decide) ?_
        refine V_icmp_ne (tgt := 67) K.1 dX9_cell_58 (by decide) (fun c58 => ?_) (fun c58 => ?_)
        · refine V_iload_n 2 K.1 dX9_cell_67 rfl rfl ?_
          refine V_iconst (v := 0) K.1 dX9_cell_68 (by decide) ?_
          refine V_aload_n 0 K.1 dX9_cell_69 rfl rfl ?_
          refine V_get (v := .ref (ω.2.2.1 37)) K.1 dX9_cell_70 rfl rfl fw_X9_13 rfl rfl ?_
          refine V_iload_n 1 K.1 dX9_cell_73 rfl rfl ?_
          refine V_iaload (v := (σ.2.1 37 (x1).toNatClampNeg)) K.1 dX9_cell_74 rfl (b4 c9 c16 c31 c58) rfl ?_
          refine V_iconst (v := 1) K.1 dX9_cell_75 (by decide) ?_
          refine V_isub K.1 dX9_cell_76 ?_
          refine V_callS (d' := d - 1) (As := [.int x2, .int (0 : Int32), .int ((σ.2.1 37 (x1).toNatClampNeg) - (1 : Int32))]) K.1 dX9_cell_77 cw_X9_87 rfl (by omega) rfl (by simp [Value.category]) (m_X9_within K.1.wf (by omega)) (go_I ?_)
          refine V_if_ne (tgt := 89) K.1 dX9_cell_80 (by decide) (fun c80 => ?_) (fun c80 => ?_)
          · refine V_aload_n 0 K.1 dX9_cell_89 rfl rfl ?_
            refine V_get (v := .ref (ω.2.2.1 38)) K.1 dX9_cell_90 rfl rfl fw_X9_16 rfl rfl ?_
            refine V_bipush (v := 80) K.1 dX9_cell_93 (by decide) ?_
            refine V_iload_n 1 K.1 dX9_cell_95 rfl rfl ?_
            refine V_imul K.1 dX9_cell_96 ?_
            refine V_iload_n 2 K.1 dX9_cell_97 rfl rfl ?_
            refine V_iadd K.1 dX9_cell_98 ?_
            refine V_iaload (v := (σ.2.1 38 ((((80 : Int32) * x1) + x2)).toNatClampNeg)) K.1 dX9_cell_99 rfl (b5 c9 c16 c31 c58 c80) rfl ?_
            refine V_i2l K.1 dX9_cell_100 ?_
            exact V_lret K dX9_cell_101 (k6 c9 c16 c31 c58 c80)
          · refine V_aload_n 0 K.1 dX9_cell_83 rfl rfl ?_
            refine V_iconst (v := 3) K.1 dX9_cell_84 (by decide) ?_
            refine V_callV (d' := d - 1) (As := [.int (3 : Int32)]) K.1 dX9_cell_85 cw_X9_291 rfl rfl rfl (by omega) rfl (by simp [Value.category]) (m_X9_lost K.1.wf (by omega)) (go_J ?_)
            exact V_lret K dX9_cell_88 (k7 c9 c16 c31 c58 c80)
        · refine V_aload_n 0 K.1 dX9_cell_61 rfl rfl ?_
          refine V_iconst (v := 1) K.1 dX9_cell_62 (by decide) ?_
          refine V_callV (d' := d - 1) (As := [.int (1 : Int32)]) K.1 dX9_cell_63 cw_X9_291 rfl rfl rfl (by omega) rfl (by simp [Value.category]) (m_X9_lost K.1.wf (by omega)) (go_J ?_)
          exact V_lret K dX9_cell_66 (k8 c9 c16 c31 c58)
      · refine V_aload_n 0 K.1 dX9_cell_34 rfl rfl ?_
        refine V_get (v := .ref (ω.2.2.1 36)) K.1 dX9_cell_35 rfl rfl fw_X9_9 rfl rfl ?_
        refine V_iload_n 1 K.1 dX9_cell_38 rfl rfl ?_
        refine V_iaload (v := (σ.2.1 36 (x1).toNatClampNeg)) K.1 dX9_cell_39 rfl (b9 c9 c16 c31) rfl ?_
        refine V_iload_n 3 K.1 dX9_cell_40 rfl rfl ?_
        refine V_icmp_eq (tgt := 50) K.1 dX9_cell_41 (by decide) (fun c41 => ?_) (fun c41 => ?_)
        · refine V_aload_n 0 K.1 dX9_cell_50 rfl rfl ?_
          refine V_get (v := .ref (ω.2.2.1 36)) K.1 dX9_cell_51 rfl rfl fw_X9_9 rfl rfl ?_
          refine V_iload_n 1 K.1 dX9_cell_54 rfl rfl ?_
          refine V_iaload (v := (σ.2.1 36 (x1).toNatClampNeg)) K.1 dX9_cell_55 rfl (b10 c9 c16 c31 c41) rfl ?_
          refine V_bipush (v := -9) K.1 dX9_cell_56 (by decide) ?_
          refine V_icmp_ne (tgt := 67) K.1 dX9_cell_58 (by decide) (fun c58 => ?_) (fun c58 => ?_)
          · refine V_iload_n 2 K.1 dX9_cell_67 rfl rfl ?_
            refine V_iconst (v := 0) K.1 dX9_cell_68 (by decide) ?_
            refine V_aload_n 0 K.1 dX9_cell_69 rfl rfl ?_
            refine V_get (v := .ref (ω.2.2.1 37)) K.1 dX9_cell_70 rfl rfl fw_X9_13 rfl rfl ?_
            refine V_iload_n 1 K.1 dX9_cell_73 rfl rfl ?_
            refine V_iaload (v := (σ.2.1 37 (x1).toNatClampNeg)) K.1 dX9_cell_74 rfl (b11 c9 c16 c31 c41 c58) rfl ?_
            refine V_iconst (v := 1) K.1 dX9_cell_75 (by decide) ?_
            refine V_isub K.1 dX9_cell_76 ?_
            refine V_callS (d' := d - 1) (As := [.int x2, .int (0 : Int32), .int ((σ.2.1 37 (x1).toNatClampNeg) - (1 : Int32))]) K.1 dX9_cell_77 cw_X9_87 rfl (by omega) rfl (by simp [Value.category]) (m_X9_within K.1.wf (by omega)) (go_I ?_)
            refine V_if_ne (tgt := 89) K.1 dX9_cell_80 (by decide) (fun c80 => ?_) (fun c80 => ?_)
            · refine V_aload_n 0 K.1 dX9_cell_89 rfl rfl ?_
              refine V_get (v := .ref (ω.2.2.1 38)) K.1 dX9_cell_90 rfl rfl fw_X9_16 rfl rfl ?_
              refine V_bipush (v := 80) K.1 dX9_cell_93 (by decide) ?_
              refine V_iload_n 1 K.1 dX9_cell_95 rfl rfl ?_
              refine V_imul K.1 dX9_cell_96 ?_
              refine V_iload_n 2 K.1 dX9_cell_97 rfl rfl ?_
              refine V_iadd K.1 dX9_cell_98 ?_
              refine V_iaload (v := (σ.2.1 38 ((((80 : Int32) * x1) + x2)).toNatClampNeg)) K.1 dX9_cell_99 rfl (b12 c9 c16 c31 c41 c58 c80) rfl ?_
              refine V_i2l K.1 dX9_cell_100 ?_
              exact V_lret K dX9_cell_101 (k13 c9 c16 c31 c41 c58 c80)
            · refine V_aload_n 0 K.1 dX9_cell_83 rfl rfl ?_
              refine V_iconst (v := 3) K.1 dX9_cell_84 (by decide) ?_
              refine V_callV (d' := d - 1) (As := [.int (3 : Int32)]) K.1 dX9_cell_85 cw_X9_291 rfl rfl rfl (by omega) rfl (by simp [Value.category]) (m_X9_lost K.1.wf (by omega)) (go_J ?_)
              exact V_lret K dX9_cell_88 (k14 c9 c16 c31 c41 c58 c80)
          · refine V_aload_n 0 K.1 dX9_cell_61 rfl rfl ?_
            refine V_iconst (v := 1) K.1 dX9_cell_62 (by decide) ?_
            refine V_callV (d' := d - 1) (As := [.int (1 : Int32)]) K.1 dX9_cell_63 cw_X9_291 rfl rfl rfl (by omega) rfl (by simp [Value.category]) (m_X9_lost K.1.wf (by omega)) (go_J ?_)
            exact V_lret K dX9_cell_66 (k15 c9 c16 c31 c41 c58)
        · refine V_aload_n 0 K.1 dX9_cell_44 rfl rfl ?_
          refine V_iconst (v := 2) K.1 dX9_cell_45 (by decide) ?_
          refine V_callV (d' := d - 1) (As := [.int (2 : Int32)]) K.1 dX9_cell_46 cw_X9_291 rfl rfl rfl (by omega) rfl (by simp [Value.category]) (m_X9_lost K.1.wf (by omega)) (go_J ?_)
          exact V_lret K dX9_cell_49 (k16 c9 c16 c31 c41)
    · refine V_ldc2_w K.1 dX9_cell_19 cn_X9_85 ?_
      exact V_lret K dX9_cell_22 (k17 c9 c16)
set_option maxRecDepth 20000 in
theorem R_X8_copy_0 {ω : WT} {κ : KT} {l : Launch} {d : Nat} {post : Option Value → St → Prop} {σ : St} {x1 x2 x3 x4 x5 : Int32}  (K : Cm ω κ l yX8_copy cX8_copy 8 d (some .int) post) (hdp : 1 ≤ d)
    (k1 : ((if (x1 < 0) then (0 : Int32) else (if ((4 : Int32) ≤ x1) then (0 : Int32) else (1 : Int32))) = 0) → post (some (.int (-1 : Int32))) (pS σ 9 (0 : Int32)))
    (k2 : ¬ ((if (x1 < 0) then (0 : Int32) else (if ((4 : Int32) ≤ x1) then (0 : Int32) else (1 : Int32))) = 0) → ¬ ((if (x3 < 0) then (0 : Int32) else (if ((4 : Int32) ≤ x3) then (0 : Int32) else (1 : Int32))) = 0) → V ω κ 26 [(0, .ref (ω.2.2.1 0)), (2, .int x2), (3, .int x3), (4, .int x4), (5, .int x5)] [.int x1, .ref (ω.2.2.1 1)] (pS σ 9 (0 : Int32)))
    (k3 : ¬ ((if (x1 < 0) then (0 : Int32) else (if ((4 : Int32) ≤ x1) then (0 : Int32) else (1 : Int32))) = 0) → ((if (x3 < 0) then (0 : Int32) else (if ((4 : Int32) ≤ x3) then (0 : Int32) else (1 : Int32))) = 0) → post (some (.int (-1 : Int32))) (pS σ 9 (0 : Int32))) :
    V ω κ 0 [(0, .ref (ω.2.2.1 0)), (1, .int x1), (2, .int x2), (3, .int x3), (4, .int x4), (5, .int x5)] [] σ := by
  refine V_aload_n 0 K.1 dX8_copy_0 rfl rfl ?_
  refine V_iconst (v := 0) K.1 dX8_copy_1 (by decide) ?_
  refine V_putI (key := 9) K.1 dX8_copy_2 rfl rfl fw_X8_220 pw_X8_9 rfl rfl rfl rfl ?_
  refine V_iload_n 1 K.1 dX8_copy_5 rfl rfl ?_
  refine V_callS (d' := d - 1) (As := [.int x1]) K.1 dX8_copy_6 cw_X8_223 rfl (by omega) rfl (by simp [Value.category]) (m_X8_isSheet K.1.wf (by omega)) (go_I ?_)
  refine V_if_eq (tgt := 19) K.1 dX8_copy_9 (by decide) (fun c9 => ?_) (fun c9 => ?_)
  · refine V_iconst (v := -1) K.1 dX8_copy_19 (by decide) ?_
    exact V_iret K dX8_copy_20 (k1 c9)
  · refine V_iload_n 3 K.1 dX8_copy_12 rfl rfl ?_
    refine V_callS (d' := d - 1) (As := [.int x3]) K.1 dX8_copy_13 cw_X8_223 rfl (by omega) rfl (by simp [Value.category]) (m_X8_isSheet K.1.wf (by omega)) (go_I ?_)
    refine V_if_ne (tgt := 21) K.1 dX8_copy_16 (by decide) (fun c16 => ?_) (fun c16 => ?_)
    · refine V_aload_n 0 K.1 dX8_copy_21 rfl rfl ?_
      refine V_get (v := .ref (ω.2.2.1 1)) K.1 dX8_copy_22 rfl rfl fw_X8_13 rfl rfl ?_
      refine V_iload_n 1 K.1 dX8_copy_25 rfl rfl ?_
      exact V_sub [0, 2, 3, 4, 5] rfl (k2 c9 c16)
    · refine V_iconst (v := -1) K.1 dX8_copy_19 (by decide) ?_
      exact V_iret K dX8_copy_20 (k3 c9 c16)
set_option maxRecDepth 20000 in
theorem R_X8_copy_27 {ω : WT} {κ : KT} {l : Launch} {d : Nat} {post : Option Value → St → Prop} {σ : St} {x2 x3 x4 x5 : Int32} {j : Nat} (hj : j < 4) (K : Cm ω κ l yX8_copy cX8_copy 8 d (some .int) post)
    (k1 : V ω κ 34 [(0, .ref (ω.2.2.1 0)), (2, .int x2), (4, .int x4), (5, .int x5), (6, .ref (ω.2.2.1 (2 + j)))] [.int x3, .ref (ω.2.2.1 1)] σ) :
    V ω κ 27 [(0, .ref (ω.2.2.1 0)), (2, .int x2), (3, .int x3), (4, .int x4), (5, .int x5)] [.ref (ω.2.2.1 (2 + j))] σ := by
  refine V_astore (L' := [(0, .ref (ω.2.2.1 0)), (2, .int x2), (3, .int x3), (4, .int x4), (5, .int x5), (6, .ref (ω.2.2.1 (2 + j)))]) K.1 dX8_copy_27 (by decide) rfl ?_
  refine V_aload_n 0 K.1 dX8_copy_29 rfl rfl ?_
  refine V_get (v := .ref (ω.2.2.1 1)) K.1 dX8_copy_30 rfl rfl fw_X8_13 rfl rfl ?_
  refine V_iload_n 2 K.1 dX8_copy_33 rfl rfl ?_
  exact V_sub [0, 1, 3, 4, 5] rfl k1
set_option maxRecDepth 20000 in
theorem R_X8_copy_35 {ω : WT} {κ : KT} {l : Launch} {d : Nat} {post : Option Value → St → Prop} {σ : St} {x2 x4 x5 : Int32} {j : Nat} (hj : j < 4) {i : Nat} (hi : i < 4) (K : Cm ω κ l yX8_copy cX8_copy 8 d (some .int) post) (hdp : 2 ≤ d)
    (k1 : ((if ((σ.1 (64 * (2 + j) + 1)) = (-1 : Int32)) then (0 : Int32) else (1 : Int32)) = 0) → post (some (.int ((-10 : Int32) - (1 : Int32)))) (pS σ 9 (1 : Int32)))
    (k2 : ¬ ((if ((σ.1 (64 * (2 + j) + 1)) = (-1 : Int32)) then (0 : Int32) else (1 : Int32)) = 0) → ¬ ((if ((σ.1 (64 * (2 + i) + 1)) = (-1 : Int32)) then (0 : Int32) else (1 : Int32)) = 0) → ((σ.1 (64 * (2 + j) + 2)) = (σ.1 (64 * (2 + i) + 2))) → ((if (x2 < 0) then (0 : Int32) else (if ((σ.1 (64 * (2 + j) + 1)) < x2) then (0 : Int32) else (if (x5 < 0) then (0 : Int32) else (if (((σ.1 (64 * (2 + j) + 1)) - x2) < x5) then (0 : Int32) else (1 : Int32))))) = 0) → post (some (.int ((-10 : Int32) - (3 : Int32)))) (pS σ 9 (3 : Int32)))
    (q3 : ¬ ((if ((σ.1 (64 * (2 + j) + 1)) = (-1 : Int32)) then (0 : Int32) else (1 : Int32)) = 0) → ¬ ((if ((σ.1 (64 * (2 + i) + 1)) = (-1 : Int32)) then (0 : Int32) else (1 : Int32)) = 0) → ((σ.1 (64 * (2 + j) + 2)) = (σ.1 (64 * (2 + i) + 2))) → ¬ ((if (x2 < 0) then (0 : Int32) else (if ((σ.1 (64 * (2 + j) + 1)) < x2) then (0 : Int32) else (if (x5 < 0) then (0 : Int32) else (if (((σ.1 (64 * (2 + j) + 1)) - x2) < x5) then (0 : Int32) else (1 : Int32))))) = 0) → ¬ ((if (x4 < 0) then (0 : Int32) else (if ((σ.1 (64 * (2 + i) + 1)) < x4) then (0 : Int32) else (if (x5 < 0) then (0 : Int32) else (if (((σ.1 (64 * (2 + i) + 1)) - x4) < x5) then (0 : Int32) else (1 : Int32))))) = 0) → ¬ x2 < 0)
    (q4 : ¬ ((if ((σ.1 (64 * (2 + j) + 1)) = (-1 : Int32)) then (0 : Int32) else (1 : Int32)) = 0) → ¬ ((if ((σ.1 (64 * (2 + i) + 1)) = (-1 : Int32)) then (0 : Int32) else (1 : Int32)) = 0) → ((σ.1 (64 * (2 + j) + 2)) = (σ.1 (64 * (2 + i) + 2))) → ¬ ((if (x2 < 0) then (0 : Int32) else (if ((σ.1 (64 * (2 + j) + 1)) < x2) then (0 : Int32) else (if (x5 < 0) then (0 : Int32) else (if (((σ.1 (64 * (2 + j) + 1)) - x2) < x5) then (0 : Int32) else (1 : Int32))))) = 0) → ¬ ((if (x4 < 0) then (0 : Int32) else (if ((σ.1 (64 * (2 + i) + 1)) < x4) then (0 : Int32) else (if (x5 < 0) then (0 : Int32) else (if (((σ.1 (64 * (2 + i) + 1)) - x4) < x5) then (0 : Int32) else (1 : Int32))))) = 0) → ¬ x4 < 0)
    (q5 : ¬ ((if ((σ.1 (64 * (2 + j) + 1)) = (-1 : Int32)) then (0 : Int32) else (1 : Int32)) = 0) → ¬ ((if ((σ.1 (64 * (2 + i) + 1)) = (-1 : Int32)) then (0 : Int32) else (1 : Int32)) = 0) → ((σ.1 (64 * (2 + j) + 2)) = (σ.1 (64 * (2 + i) + 2))) → ¬ ((if (x2 < 0) then (0 : Int32) else (if ((σ.1 (64 * (2 + j) + 1)) < x2) then (0 : Int32) else (if (x5 < 0) then (0 : Int32) else (if (((σ.1 (64 * (2 + j) + 1)) - x2) < x5) then (0 : Int32) else (1 : Int32))))) = 0) → ¬ ((if (x4 < 0) then (0 : Int32) else (if ((σ.1 (64 * (2 + i) + 1)) < x4) then (0 : Int32) else (if (x5 < 0) then (0 : Int32) else (if (((σ.1 (64 * (2 + i) + 1)) - x4) < x5) then (0 : Int32) else (1 : Int32))))) = 0) → ¬ x5 < 0)
    (q6 : ¬ ((if ((σ.1 (64 * (2 + j) + 1)) = (-1 : Int32)) then (0 : Int32) else (1 : Int32)) = 0) → ¬ ((if ((σ.1 (64 * (2 + i) + 1)) = (-1 : Int32)) then (0 : Int32) else (1 : Int32)) = 0) → ((σ.1 (64 * (2 + j) + 2)) = (σ.1 (64 * (2 + i) + 2))) → ¬ ((if (x2 < 0) then (0 : Int32) else (if ((σ.1 (64 * (2 + j) + 1)) < x2) then (0 : Int32) else (if (x5 < 0) then (0 : Int32) else (if (((σ.1 (64 * (2 + j) + 1)) - x2) < x5) then (0 : Int32) else (1 : Int32))))) = 0) → ¬ ((if (x4 < 0) then (0 : Int32) else (if ((σ.1 (64 * (2 + i) + 1)) < x4) then (0 : Int32) else (if (x5 < 0) then (0 : Int32) else (if (((σ.1 (64 * (2 + i) + 1)) - x4) < x5) then (0 : Int32) else (1 : Int32))))) = 0) → (x2).toNatClampNeg + (x5).toNatClampNeg ≤ 80)
    (q7 : ¬ ((if ((σ.1 (64 * (2 + j) + 1)) = (-1 : Int32)) then (0 : Int32) else (1 : Int32)) = 0) → ¬ ((if ((σ.1 (64 * (2 + i) + 1)) = (-1 : Int32)) then (0 : Int32) else (1 : Int32)) = 0) → ((σ.1 (64 * (2 + j) + 2)) = (σ.1 (64 * (2 + i) + 2))) → ¬ ((if (x2 < 0) then (0 : Int32) else (if ((σ.1 (64 * (2 + j) + 1)) < x2) then (0 : Int32) else (if (x5 < 0) then (0 : Int32) else (if (((σ.1 (64 * (2 + j) + 1)) - x2) < x5) then (0 : Int32) else (1 : Int32))))) = 0) → ¬ ((if (x4 < 0) then (0 : Int32) else (if ((σ.1 (64 * (2 + i) + 1)) < x4) then (0 : Int32) else (if (x5 < 0) then (0 : Int32) else (if (((σ.1 (64 * (2 + i) + 1)) - x4) < x5) then (0 : Int32) else (1 : Int32))))) = 0) → (x4).toNatClampNeg + (x5).toNatClampNeg ≤ 80)
    (k8 : ¬ ((if ((σ.1 (64 * (2 + j) + 1)) = (-1 : Int32)) then (0 : Int32) else (1 : Int32)) = 0) → ¬ ((if ((σ.1 (64 * (2 + i) + 1)) = (-1 : Int32)) then (0 : Int32) else (1 : Int32)) = 0) → ((σ.1 (64 * (2 + j) + 2)) = (σ.1 (64 * (2 + i) + 2))) → ¬ ((if (x2 < 0) then (0 : Int32) else (if ((σ.1 (64 * (2 + j) + 1)) < x2) then (0 : Int32) else (if (x5 < 0) then (0 : Int32) else (if (((σ.1 (64 * (2 + j) + 1)) - x2) < x5) then (0 : Int32) else (1 : Int32))))) = 0) → ¬ ((if (x4 < 0) then (0 : Int32) else (if ((σ.1 (64 * (2 + i) + 1)) < x4) then (0 : Int32) else (if (x5 < 0) then (0 : Int32) else (if (((σ.1 (64 * (2 + i) + 1)) - x4) < x5) then (0 : Int32) else (1 : Int32))))) = 0) → post (some (.int x5)) (pF σ (6 + i) (va_cpy (σ.2.1 (6 + j)) (σ.2.1 (6 + i)) (x2).toNatClampNeg (x4).toNatClampNeg (x5).toNatClampNeg)))
    (k9 : ¬ ((if ((σ.1 (64 * (2 + j) + 1)) = (-1 : Int32)) then (0 : Int32) else (1 : Int32)) = 0) → ¬ ((if ((σ.1 (64 * (2 + i) + 1)) = (-1 : Int32)) then (0 : Int32) else (1 : Int32)) = 0) → ((σ.1 (64 * (2 + j) + 2)) = (σ.1 (64 * (2 + i) + 2))) → ¬ ((if (x2 < 0) then (0 : Int32) else (if ((σ.1 (64 * (2 + j) + 1)) < x2) then (0 : Int32) else (if (x5 < 0) then (0 : Int32) else (if (((σ.1 (64 * (2 + j) + 1)) - x2) < x5) then (0 : Int32) else (1 : Int32))))) = 0) → ((if (x4 < 0) then (0 : Int32) else (if ((σ.1 (64 * (2 + i) + 1)) < x4) then (0 : Int32) else (if (x5 < 0) then (0 : Int32) else (if (((σ.1 (64 * (2 + i) + 1)) - x4) < x5) then (0 : Int32) else (1 : Int32))))) = 0) → post (some (.int ((-10 : Int32) - (3 : Int32)))) (pS σ 9 (3 : Int32)))
    (k10 : ¬ ((if ((σ.1 (64 * (2 + j) + 1)) = (-1 : Int32)) then (0 : Int32) else (1 : Int32)) = 0) → ¬ ((if ((σ.1 (64 * (2 + i) + 1)) = (-1 : Int32)) then (0 : Int32) else (1 : Int32)) = 0) → ¬ ((σ.1 (64 * (2 + j) + 2)) = (σ.1 (64 * (2 + i) + 2))) → post (some (.int ((-10 : Int32) - (2 : Int32)))) (pS σ 9 (2 : Int32)))
    (k11 : ¬ ((if ((σ.1 (64 * (2 + j) + 1)) = (-1 : Int32)) then (0 : Int32) else (1 : Int32)) = 0) → ((if ((σ.1 (64 * (2 + i) + 1)) = (-1 : Int32)) then (0 : Int32) else (1 : Int32)) = 0) → post (some (.int ((-10 : Int32) - (1 : Int32)))) (pS σ 9 (1 : Int32))) :
    V ω κ 35 [(0, .ref (ω.2.2.1 0)), (2, .int x2), (4, .int x4), (5, .int x5), (6, .ref (ω.2.2.1 (2 + j)))] [.ref (ω.2.2.1 (2 + i))] σ := by
  refine V_astore (L' := [(0, .ref (ω.2.2.1 0)), (2, .int x2), (4, .int x4), (5, .int x5), (6, .ref (ω.2.2.1 (2 + j))), (7, .ref (ω.2.2.1 (2 + i)))]) K.1 dX8_copy_35 (by decide) rfl ?_
  refine V_aload 4 K.1 dX8_copy_37 rfl ?_
  refine V_callV (d' := d - 1) (As := []) K.1 dX8_copy_39 cw_X8_235 (shO j hj) rfl rfl (by omega) rfl (by simp [Value.category]) (m_X6_hasRow hj K.1.wf (by omega)) (go_I ?_)
  refine V_if_eq (tgt := 53) K.1 dX8_copy_42 (by decide) (fun c42 => ?_) (fun c42 => ?_)
  · refine V_aload_n 0 K.1 dX8_copy_53 rfl rfl ?_
    refine V_iconst (v := 1) K.1 dX8_copy_54 (by decide) ?_
    refine V_callV (d' := d - 1) (As := [.int (1 : Int32)]) K.1 dX8_copy_55 cw_X8_229 rfl rfl rfl (by omega) rfl (by simp [Value.category]) (m_X8_failed K.1.wf (by omega)) (go_I ?_)
    exact V_iret K dX8_copy_58 (k1 c42)
  · refine V_aload 5 K.1 dX8_copy_45 rfl ?_
    refine V_callV (d' := d - 1) (As := []) K.1 dX8_copy_47 cw_X8_235 (shO i hi) rfl rfl (by omega) rfl (by simp [Value.category]) (m_X6_hasRow hi K.1.wf (by omega)) (go_I ?_)
    refine V_if_ne (tgt := 59) K.1 dX8_copy_50 (by decide) (fun c50 => ?_) (fun c50 => ?_)
    · refine V_aload 4 K.1 dX8_copy_59 rfl ?_
      refine V_get (v := .int (σ.1 (64 * (2 + j) + 2))) K.1 dX8_copy_61 (shO j hj) rfl fw_X8_250 rfl rfl ?_
      refine V_aload 5 K.1 dX8_copy_64 rfl ?_
      refine V_get (v := .int (σ.1 (64 * (2 + i) + 2))) K.1 dX8_copy_66 (shO i hi) rfl fw_X8_250 rfl rfl ?_
      refine V_icmp_eq (tgt := 78) K.1 dX8_copy_69 (by decide) (fun c69 => ?_) (fun c69 => ?_)
      · refine V_aload 4 K.1 dX8_copy_78 rfl ?_
        refine V_iload_n 1 K.1 dX8_copy_80 rfl rfl ?_
        refine V_iload 3 K.1 dX8_copy_81 rfl ?_
        refine V_callV (d' := d - 1) (As := [.int x2, .int x5]) K.1 dX8_copy_83 cw_X8_241 (shO j hj) rfl rfl (by omega) rfl (by simp [Value.category]) (m_X6_hasCells hj K.1.wf (by omega)) (go_I ?_)
        refine V_if_eq (tgt := 101) K.1 dX8_copy_86 (by decide) (fun c86 => ?_) (fun c86 => ?_)
        · refine V_aload_n 0 K.1 dX8_copy_101 rfl rfl ?_
          refine V_iconst (v := 3) K.1 dX8_copy_102 (by decide) ?_
          refine V_callV (d' := d - 1) (As := [.int (3 : Int32)]) K.1 dX8_copy_103 cw_X8_229 rfl rfl rfl (by omega) rfl (by simp [Value.category]) (m_X8_failed K.1.wf (by omega)) (go_I ?_)
          exact V_iret K dX8_copy_106 (k2 c42 c50 c69 c86)
        · refine V_aload 5 K.1 dX8_copy_89 rfl ?_
          refine V_iload 2 K.1 dX8_copy_91 rfl ?_
          refine V_iload 3 K.1 dX8_copy_93 rfl ?_
          refine V_callV (d' := d - 1) (As := [.int x4, .int x5]) K.1 dX8_copy_95 cw_X8_241 (shO i hi) rfl rfl (by omega) rfl (by simp [Value.category]) (m_X6_hasCells hi K.1.wf (by omega)) (go_I ?_)
          refine V_if_ne (tgt := 107) K.1 dX8_copy_98 (by decide) (fun c98 => ?_) (fun c98 => ?_)
          · refine V_aload 4 K.1 dX8_copy_107 rfl ?_
            refine V_get (v := .ref (ω.2.2.1 (6 + j))) K.1 dX8_copy_109 (shO j hj) rfl fw_X8_253 rfl rfl ?_
            refine V_iload_n 1 K.1 dX8_copy_112 rfl rfl ?_
            refine V_aload 5 K.1 dX8_copy_113 rfl ?_
            refine V_get (v := .ref (ω.2.2.1 (6 + i))) K.1 dX8_copy_115 (shO i hi) rfl fw_X8_253 rfl rfl ?_
            refine V_iload 2 K.1 dX8_copy_118 rfl ?_
            refine V_iload 3 K.1 dX8_copy_120 rfl ?_
            refine V_copyI K.1 dX8_copy_122 cp_X8_256 (shA j hj) (shA i hi) (q3 c42 c50 c69 c86 c98) (q4 c42 c50 c69 c86 c98) (q5 c42 c50 c69 c86 c98) (q6 c42 c50 c69 c86 c98) (q7 c42 c50 c69 c86 c98) (by omega) (by decide) ?_
            refine V_iload 3 K.1 dX8_copy_125 rfl ?_
            exact V_iret K dX8_copy_127 (k8 c42 c50 c69 c86 c98)
          · refine V_aload_n 0 K.1 dX8_copy_101 rfl rfl ?_
            refine V_iconst (v := 3) K.1 dX8_copy_102 (by decide) ?_
            refine V_callV (d' := d - 1) (As := [.int (3 : Int32)]) K.1 dX8_copy_103 cw_X8_229 rfl rfl rfl (by omega) rfl (by simp [Value.category]) (m_X8_failed K.1.wf (by omega)) (go_I ?_)
            exact V_iret K dX8_copy_106 (k9 c42 c50 c69 c86 c98)
      · refine V_aload_n 0 K.1 dX8_copy_72 rfl rfl ?_
        refine V_iconst (v := 2) K.1 dX8_copy_73 (by decide) ?_
        refine V_callV (d' := d - 1) (As := [.int (2 : Int32)]) K.1 dX8_copy_74 cw_X8_229 rfl rfl rfl (by omega) rfl (by simp [Value.category]) (m_X8_failed K.1.wf (by omega)) (go_I ?_)
        exact V_iret K dX8_copy_77 (k10 c42 c50 c69)
    · refine V_aload_n 0 K.1 dX8_copy_53 rfl rfl ?_
      refine V_iconst (v := 1) K.1 dX8_copy_54 (by decide) ?_
      refine V_callV (d' := d - 1) (As := [.int (1 : Int32)]) K.1 dX8_copy_55 cw_X8_229 rfl rfl rfl (by omega) rfl (by simp [Value.category]) (m_X8_failed K.1.wf (by omega)) (go_I ?_)
      exact V_iret K dX8_copy_58 (k11 c42 c50)
theorem A_X8_copy_26 {ω : WT} {κ : KT} {l : Launch} {d : Nat} {post : Option Value → St → Prop} {σ : St} {x2 x3 x4 x5 : Int32}  {j : Nat} (hj : j < 4) (K : Cm ω κ l yX8_copy cX8_copy 8 d (some .int) post)
    (kk : V ω κ 27 [(0, .ref (ω.2.2.1 0)), (2, .int x2), (3, .int x3), (4, .int x4), (5, .int x5)] [.ref (ω.2.2.1 (2 + j))] σ) : V ω κ 26 [(0, .ref (ω.2.2.1 0)), (2, .int x2), (3, .int x3), (4, .int x4), (5, .int x5)] [.int (nI j), .ref (ω.2.2.1 1)] σ := by
  refine V_aaload K.1 dX8_copy_26 rfl (vp_in_nI hj (by omega)) ?_
  rw [nI_clamp (by omega)]
  exact kk
theorem A_X8_copy_34 {ω : WT} {κ : KT} {l : Launch} {d : Nat} {post : Option Value → St → Prop} {σ : St} {x2 x4 x5 : Int32} {j : Nat} (hj : j < 4) {i : Nat} (hi : i < 4) (K : Cm ω κ l yX8_copy cX8_copy 8 d (some .int) post)
    (kk : V ω κ 35 [(0, .ref (ω.2.2.1 0)), (2, .int x2), (4, .int x4), (5, .int x5), (6, .ref (ω.2.2.1 (2 + j)))] [.ref (ω.2.2.1 (2 + i))] σ) : V ω κ 34 [(0, .ref (ω.2.2.1 0)), (2, .int x2), (4, .int x4), (5, .int x5), (6, .ref (ω.2.2.1 (2 + j)))] [.int (nI i), .ref (ω.2.2.1 1)] σ := by
  refine V_aaload K.1 dX8_copy_34 rfl (vp_in_nI hi (by omega)) ?_
  rw [nI_clamp (by omega)]
  exact kk
set_option maxRecDepth 20000 in
theorem R_X9_copy_0 {ω : WT} {κ : KT} {l : Launch} {d : Nat} {post : Option Value → St → Prop} {σ : St} {x1 x2 x3 x4 x5 : Int32}  (K : Cm ω κ l yX9_copy cX9_copy 10 d (some .int) post) (hdp : 2 ≤ d)
    (k1 : ((if (x1 < (0 : Int32)) then (0 : Int32) else (if ((3 : Int32) < x1) then (0 : Int32) else (1 : Int32))) = 0) → post (some (.int (-1 : Int32))) (pS σ 2240 (0 : Int32)))
    (b2 : ¬ ((if (x1 < (0 : Int32)) then (0 : Int32) else (if ((3 : Int32) < x1) then (0 : Int32) else (1 : Int32))) = 0) → ¬ ((if (x3 < (0 : Int32)) then (0 : Int32) else (if ((3 : Int32) < x3) then (0 : Int32) else (1 : Int32))) = 0) → vp_in x1 4)
    (k3 : ¬ ((if (x1 < (0 : Int32)) then (0 : Int32) else (if ((3 : Int32) < x1) then (0 : Int32) else (1 : Int32))) = 0) → ¬ ((if (x3 < (0 : Int32)) then (0 : Int32) else (if ((3 : Int32) < x3) then (0 : Int32) else (1 : Int32))) = 0) → ((σ.2.1 36 (x1).toNatClampNeg) = (-9 : Int32)) → post (some (.int ((-10 : Int32) - (1 : Int32)))) (pS (pS σ 2240 (0 : Int32)) 2240 (1 : Int32)))
    (b4 : ¬ ((if (x1 < (0 : Int32)) then (0 : Int32) else (if ((3 : Int32) < x1) then (0 : Int32) else (1 : Int32))) = 0) → ¬ ((if (x3 < (0 : Int32)) then (0 : Int32) else (if ((3 : Int32) < x3) then (0 : Int32) else (1 : Int32))) = 0) → ¬ ((σ.2.1 36 (x1).toNatClampNeg) = (-9 : Int32)) → vp_in x3 4)
    (b5 : ¬ ((if (x1 < (0 : Int32)) then (0 : Int32) else (if ((3 : Int32) < x1) then (0 : Int32) else (1 : Int32))) = 0) → ¬ ((if (x3 < (0 : Int32)) then (0 : Int32) else (if ((3 : Int32) < x3) then (0 : Int32) else (1 : Int32))) = 0) → ¬ ((σ.2.1 36 (x1).toNatClampNeg) = (-9 : Int32)) → ¬ ((σ.2.1 36 (x3).toNatClampNeg) = (-9 : Int32)) → vp_in x1 4)
    (b6 : ¬ ((if (x1 < (0 : Int32)) then (0 : Int32) else (if ((3 : Int32) < x1) then (0 : Int32) else (1 : Int32))) = 0) → ¬ ((if (x3 < (0 : Int32)) then (0 : Int32) else (if ((3 : Int32) < x3) then (0 : Int32) else (1 : Int32))) = 0) → ¬ ((σ.2.1 36 (x1).toNatClampNeg) = (-9 : Int32)) → ¬ ((σ.2.1 36 (x3).toNatClampNeg) = (-9 : Int32)) → vp_in x3 4)
    (b8 : ¬ ((if (x1 < (0 : Int32)) then (0 : Int32) else (if ((3 : Int32) < x1) then (0 : Int32) else (1 : Int32))) = 0) → ¬ ((if (x3 < (0 : Int32)) then (0 : Int32) else (if ((3 : Int32) < x3) then (0 : Int32) else (1 : Int32))) = 0) → ¬ ((σ.2.1 36 (x1).toNatClampNeg) = (-9 : Int32)) → ¬ ((σ.2.1 36 (x3).toNatClampNeg) = (-9 : Int32)) → ((σ.2.1 36 (x1).toNatClampNeg) = (σ.2.1 36 (x3).toNatClampNeg)) → ¬ (x2 < 0) → ¬ (x4 < 0) → ¬ (x5 < 0) → vp_in x1 4)
    (b9 : ¬ ((if (x1 < (0 : Int32)) then (0 : Int32) else (if ((3 : Int32) < x1) then (0 : Int32) else (1 : Int32))) = 0) → ¬ ((if (x3 < (0 : Int32)) then (0 : Int32) else (if ((3 : Int32) < x3) then (0 : Int32) else (1 : Int32))) = 0) → ¬ ((σ.2.1 36 (x1).toNatClampNeg) = (-9 : Int32)) → ¬ ((σ.2.1 36 (x3).toNatClampNeg) = (-9 : Int32)) → ((σ.2.1 36 (x1).toNatClampNeg) = (σ.2.1 36 (x3).toNatClampNeg)) → ¬ (x2 < 0) → ¬ (x4 < 0) → ¬ (x5 < 0) → ¬ ((σ.2.1 37 (x1).toNatClampNeg) < x2) → vp_in x3 4)
    (k10 : ¬ ((if (x1 < (0 : Int32)) then (0 : Int32) else (if ((3 : Int32) < x1) then (0 : Int32) else (1 : Int32))) = 0) → ¬ ((if (x3 < (0 : Int32)) then (0 : Int32) else (if ((3 : Int32) < x3) then (0 : Int32) else (1 : Int32))) = 0) → ¬ ((σ.2.1 36 (x1).toNatClampNeg) = (-9 : Int32)) → ¬ ((σ.2.1 36 (x3).toNatClampNeg) = (-9 : Int32)) → ((σ.2.1 36 (x1).toNatClampNeg) = (σ.2.1 36 (x3).toNatClampNeg)) → ((if (x2 < 0) then (0 : Int32) else (if (x4 < 0) then (0 : Int32) else (if (x5 < 0) then (0 : Int32) else (if ((σ.2.1 37 (x1).toNatClampNeg) < x2) then (0 : Int32) else (if ((σ.2.1 37 (x3).toNatClampNeg) < x4) then (0 : Int32) else (1 : Int32)))))) = 0) → post (some (.int ((-10 : Int32) - (3 : Int32)))) (pS (pS σ 2240 (0 : Int32)) 2240 (3 : Int32)))
    (b11 : ¬ ((if (x1 < (0 : Int32)) then (0 : Int32) else (if ((3 : Int32) < x1) then (0 : Int32) else (1 : Int32))) = 0) → ¬ ((if (x3 < (0 : Int32)) then (0 : Int32) else (if ((3 : Int32) < x3) then (0 : Int32) else (1 : Int32))) = 0) → ¬ ((σ.2.1 36 (x1).toNatClampNeg) = (-9 : Int32)) → ¬ ((σ.2.1 36 (x3).toNatClampNeg) = (-9 : Int32)) → ((σ.2.1 36 (x1).toNatClampNeg) = (σ.2.1 36 (x3).toNatClampNeg)) → ¬ ((if (x2 < 0) then (0 : Int32) else (if (x4 < 0) then (0 : Int32) else (if (x5 < 0) then (0 : Int32) else (if ((σ.2.1 37 (x1).toNatClampNeg) < x2) then (0 : Int32) else (if ((σ.2.1 37 (x3).toNatClampNeg) < x4) then (0 : Int32) else (1 : Int32)))))) = 0) → vp_in x1 4)
    (k12 : ¬ ((if (x1 < (0 : Int32)) then (0 : Int32) else (if ((3 : Int32) < x1) then (0 : Int32) else (1 : Int32))) = 0) → ¬ ((if (x3 < (0 : Int32)) then (0 : Int32) else (if ((3 : Int32) < x3) then (0 : Int32) else (1 : Int32))) = 0) → ¬ ((σ.2.1 36 (x1).toNatClampNeg) = (-9 : Int32)) → ¬ ((σ.2.1 36 (x3).toNatClampNeg) = (-9 : Int32)) → ((σ.2.1 36 (x1).toNatClampNeg) = (σ.2.1 36 (x3).toNatClampNeg)) → ¬ ((if (x2 < 0) then (0 : Int32) else (if (x4 < 0) then (0 : Int32) else (if (x5 < 0) then (0 : Int32) else (if ((σ.2.1 37 (x1).toNatClampNeg) < x2) then (0 : Int32) else (if ((σ.2.1 37 (x3).toNatClampNeg) < x4) then (0 : Int32) else (1 : Int32)))))) = 0) → (((σ.2.1 37 (x1).toNatClampNeg) - x2) < x5) → post (some (.int ((-10 : Int32) - (3 : Int32)))) (pS (pS σ 2240 (0 : Int32)) 2240 (3 : Int32)))
    (b13 : ¬ ((if (x1 < (0 : Int32)) then (0 : Int32) else (if ((3 : Int32) < x1) then (0 : Int32) else (1 : Int32))) = 0) → ¬ ((if (x3 < (0 : Int32)) then (0 : Int32) else (if ((3 : Int32) < x3) then (0 : Int32) else (1 : Int32))) = 0) → ¬ ((σ.2.1 36 (x1).toNatClampNeg) = (-9 : Int32)) → ¬ ((σ.2.1 36 (x3).toNatClampNeg) = (-9 : Int32)) → ((σ.2.1 36 (x1).toNatClampNeg) = (σ.2.1 36 (x3).toNatClampNeg)) → ¬ ((if (x2 < 0) then (0 : Int32) else (if (x4 < 0) then (0 : Int32) else (if (x5 < 0) then (0 : Int32) else (if ((σ.2.1 37 (x1).toNatClampNeg) < x2) then (0 : Int32) else (if ((σ.2.1 37 (x3).toNatClampNeg) < x4) then (0 : Int32) else (1 : Int32)))))) = 0) → ¬ (((σ.2.1 37 (x1).toNatClampNeg) - x2) < x5) → vp_in x3 4)
    (k15 : ¬ ((if (x1 < (0 : Int32)) then (0 : Int32) else (if ((3 : Int32) < x1) then (0 : Int32) else (1 : Int32))) = 0) → ¬ ((if (x3 < (0 : Int32)) then (0 : Int32) else (if ((3 : Int32) < x3) then (0 : Int32) else (1 : Int32))) = 0) → ¬ ((σ.2.1 36 (x1).toNatClampNeg) = (-9 : Int32)) → ¬ ((σ.2.1 36 (x3).toNatClampNeg) = (-9 : Int32)) → ((σ.2.1 36 (x1).toNatClampNeg) = (σ.2.1 36 (x3).toNatClampNeg)) → ¬ ((if (x2 < 0) then (0 : Int32) else (if (x4 < 0) then (0 : Int32) else (if (x5 < 0) then (0 : Int32) else (if ((σ.2.1 37 (x1).toNatClampNeg) < x2) then (0 : Int32) else (if ((σ.2.1 37 (x3).toNatClampNeg) < x4) then (0 : Int32) else (1 : Int32)))))) = 0) → ¬ (((σ.2.1 37 (x1).toNatClampNeg) - x2) < x5) → (x5 ≤ ((σ.2.1 37 (x3).toNatClampNeg) - x4)) → V ω κ 166 [(0, .ref (ω.2.2.1 35)), (1, .int x1), (2, .int x2), (3, .int x3), (4, .int x4), (5, .int x5), (7, .int (if (x4 ≤ x2) then (0 : Int32) else (1 : Int32))), (8, .int (0 : Int32))] [] (pS σ 2240 (0 : Int32)))
    (k16 : ¬ ((if (x1 < (0 : Int32)) then (0 : Int32) else (if ((3 : Int32) < x1) then (0 : Int32) else (1 : Int32))) = 0) → ¬ ((if (x3 < (0 : Int32)) then (0 : Int32) else (if ((3 : Int32) < x3) then (0 : Int32) else (1 : Int32))) = 0) → ¬ ((σ.2.1 36 (x1).toNatClampNeg) = (-9 : Int32)) → ¬ ((σ.2.1 36 (x3).toNatClampNeg) = (-9 : Int32)) → ((σ.2.1 36 (x1).toNatClampNeg) = (σ.2.1 36 (x3).toNatClampNeg)) → ¬ ((if (x2 < 0) then (0 : Int32) else (if (x4 < 0) then (0 : Int32) else (if (x5 < 0) then (0 : Int32) else (if ((σ.2.1 37 (x1).toNatClampNeg) < x2) then (0 : Int32) else (if ((σ.2.1 37 (x3).toNatClampNeg) < x4) then (0 : Int32) else (1 : Int32)))))) = 0) → ¬ (((σ.2.1 37 (x1).toNatClampNeg) - x2) < x5) → ¬ (x5 ≤ ((σ.2.1 37 (x3).toNatClampNeg) - x4)) → post (some (.int ((-10 : Int32) - (3 : Int32)))) (pS (pS σ 2240 (0 : Int32)) 2240 (3 : Int32)))
    (k17 : ¬ ((if (x1 < (0 : Int32)) then (0 : Int32) else (if ((3 : Int32) < x1) then (0 : Int32) else (1 : Int32))) = 0) → ¬ ((if (x3 < (0 : Int32)) then (0 : Int32) else (if ((3 : Int32) < x3) then (0 : Int32) else (1 : Int32))) = 0) → ¬ ((σ.2.1 36 (x1).toNatClampNeg) = (-9 : Int32)) → ¬ ((σ.2.1 36 (x3).toNatClampNeg) = (-9 : Int32)) → ¬ ((σ.2.1 36 (x1).toNatClampNeg) = (σ.2.1 36 (x3).toNatClampNeg)) → post (some (.int ((-10 : Int32) - (2 : Int32)))) (pS (pS σ 2240 (0 : Int32)) 2240 (2 : Int32)))
    (k18 : ¬ ((if (x1 < (0 : Int32)) then (0 : Int32) else (if ((3 : Int32) < x1) then (0 : Int32) else (1 : Int32))) = 0) → ¬ ((if (x3 < (0 : Int32)) then (0 : Int32) else (if ((3 : Int32) < x3) then (0 : Int32) else (1 : Int32))) = 0) → ¬ ((σ.2.1 36 (x1).toNatClampNeg) = (-9 : Int32)) → ((σ.2.1 36 (x3).toNatClampNeg) = (-9 : Int32)) → post (some (.int ((-10 : Int32) - (1 : Int32)))) (pS (pS σ 2240 (0 : Int32)) 2240 (1 : Int32)))
    (k19 : ¬ ((if (x1 < (0 : Int32)) then (0 : Int32) else (if ((3 : Int32) < x1) then (0 : Int32) else (1 : Int32))) = 0) → ((if (x3 < (0 : Int32)) then (0 : Int32) else (if ((3 : Int32) < x3) then (0 : Int32) else (1 : Int32))) = 0) → post (some (.int (-1 : Int32))) (pS σ 2240 (0 : Int32))) :
    V ω κ 0 [(0, .ref (ω.2.2.1 35)), (1, .int x1), (2, .int x2), (3, .int x3), (4, .int x4), (5, .int x5)] [] σ := by
  refine V_aload_n 0 K.1 dX9_copy_0 rfl rfl ?_
  refine V_iconst (v := 0) K.1 dX9_copy_1 (by decide) ?_
  refine V_putI (key := 2240) K.1 dX9_copy_2 rfl rfl fw_X9_81 pw_X9_0 rfl rfl rfl rfl ?_
  refine V_iload_n 1 K.1 dX9_copy_5 rfl rfl ?_
  refine V_callS (d' := d - 1) (As := [.int x1]) K.1 dX9_copy_6 cw_X9_100 rfl (by omega) rfl (by simp [Value.category]) (m_X9_isSheet K.1.wf (by omega)) (go_I ?_)
  refine V_if_eq (tgt := 19) K.1 dX9_copy_9 (by decide) (fun c9 => ?_) (fun c9 => ?_)
  · refine V_iconst (v := -1) K.1 dX9_copy_19 (by decide) ?_
    exact V_iret K dX9_copy_20 (k1 c9)
  · refine V_iload_n 3 K.1 dX9_copy_12 rfl rfl ?_
    refine V_callS (d' := d - 1) (As := [.int x3]) K.1 dX9_copy_13 cw_X9_100 rfl (by omega) rfl (by simp [Value.category]) (m_X9_isSheet K.1.wf (by omega)) (go_I ?_)
    refine V_if_ne (tgt := 21) K.1 dX9_copy_16 (by decide) (fun c16 => ?_) (fun c16 => ?_)
    · refine V_aload_n 0 K.1 dX9_copy_21 rfl rfl ?_
      refine V_get (v := .ref (ω.2.2.1 36)) K.1 dX9_copy_22 rfl rfl fw_X9_9 rfl rfl ?_
      refine V_iload_n 1 K.1 dX9_copy_25 rfl rfl ?_
      refine V_iaload (v := (σ.2.1 36 (x1).toNatClampNeg)) K.1 dX9_copy_26 rfl (b2 c9 c16) rfl ?_
      refine V_bipush (v := -9) K.1 dX9_copy_27 (by decide) ?_
      refine V_icmp_eq (tgt := 43) K.1 dX9_copy_29 (by decide) (fun c29 => ?_) (fun c29 => ?_)
      · refine V_aload_n 0 K.1 dX9_copy_43 rfl rfl ?_
        refine V_iconst (v := 1) K.1 dX9_copy_44 (by decide) ?_
        refine V_callV (d' := d - 1) (As := [.int (1 : Int32)]) K.1 dX9_copy_45 cw_X9_111 rfl rfl rfl (by omega) rfl (by simp [Value.category]) (m_X9_fails K.1.wf (by omega)) (go_I ?_)
        exact V_iret K dX9_copy_48 (k3 c9 c16 c29)
      · refine V_aload_n 0 K.1 dX9_copy_32 rfl rfl ?_
        refine V_get (v := .ref (ω.2.2.1 36)) K.1 dX9_copy_33 rfl rfl fw_X9_9 rfl rfl ?_
        refine V_iload_n 3 K.1 dX9_copy_36 rfl rfl ?_
        refine V_iaload (v := (σ.2.1 36 (x3).toNatClampNeg)) K.1 dX9_copy_37 rfl (b4 c9 c16 c29) rfl ?_
        refine V_bipush (v := -9) K.1 dX9_copy_38 (by decide) ?_
        refine V_icmp_ne (tgt := 49) K.1 dX9_copy_40 (by decide) (fun c40 => ?_) (fun c40 => ?_)
        · refine V_aload_n 0 K.1 dX9_copy_49 rfl rfl ?_
          refine V_get (v := .ref (ω.2.2.1 36)) K.1 dX9_copy_50 rfl rfl fw_X9_9 rfl rfl ?_
          refine V_iload_n 1 K.1 dX9_copy_53 rfl rfl ?_
          refine V_iaload (v := (σ.2.1 36 (x1).toNatClampNeg)) K.1 dX9_copy_54 rfl (b5 c9 c16 c29 c40) rfl ?_
          refine V_aload_n 0 K.1 dX9_copy_55 rfl rfl ?_
          refine V_get (v := .ref (ω.2.2.1 36)) K.1 dX9_copy_56 rfl rfl fw_X9_9 rfl rfl ?_
          refine V_iload_n 3 K.1 dX9_copy_59 rfl rfl ?_
          refine V_iaload (v := (σ.2.1 36 (x3).toNatClampNeg)) K.1 dX9_copy_60 rfl (b6 c9 c16 c29 c40) rfl ?_
          refine V_icmp_eq (tgt := 70) K.1 dX9_copy_61 (by decide) (fun c61 => ?_) (fun c61 => ?_)
          · refine V_iload_n 2 K.1 dX9_copy_70 rfl rfl ?_
            refine V_join (J := 110) (S := []) (v := .int (if (x2 < 0) then (0 : Int32) else (if (x4 < 0) then (0 : Int32) else (if (x5 < 0) then (0 : Int32) else (if ((σ.2.1 37 (x1).toNatClampNeg) < x2) then (0 : Int32) else (if ((σ.2.1 37 (x3).toNatClampNeg) < x4) then (0 : Int32) else (1 : Int32))))))) (fun hJ7 => ?_) ?_
            · refine V_if_lt (tgt := 109) K.1 dX9_copy_71 (by decide) (fun c71 => ?_) (fun c71 => ?_)
              · refine V_iconst (v := 0) K.1 dX9_copy_109 (by decide) ?_
                exact V_top (if_pos c71) hJ7
              · refine V_iload 4 K.1 dX9_copy_74 rfl ?_
                refine V_if_lt (tgt := 109) K.1 dX9_copy_76 (by decide) (fun c76 => ?_) (fun c76 => ?_)
                · refine V_iconst (v := 0) K.1 dX9_copy_109 (by decide) ?_
                  exact V_top ((if_neg c71).trans (if_pos c76)) hJ7
                · refine V_iload 5 K.1 dX9_copy_79 rfl ?_
                  refine V_if_lt (tgt := 109) K.1 dX9_copy_81 (by decide) (fun c81 => ?_) (fun c81 => ?_)
                  · refine V_iconst (v := 0) K.1 dX9_copy_109 (by decide) ?_
                    exact V_top (((if_neg c71).trans (if_neg c76)).trans (if_pos c81)) hJ7
                  · refine V_iload_n 2 K.1 dX9_copy_84 rfl rfl ?_
                    refine V_aload_n 0 K.1 dX9_copy_85 rfl rfl ?_
                    refine V_get (v := .ref (ω.2.2.1 37)) K.1 dX9_copy_86 rfl rfl fw_X9_13 rfl rfl ?_
                    refine V_iload_n 1 K.1 dX9_copy_89 rfl rfl ?_
                    refine V_iaload (v := (σ.2.1 37 (x1).toNatClampNeg)) K.1 dX9_copy_90 rfl (b8 c9 c16 c29 c40 c61 c71 c76 c81) rfl ?_
                    refine V_icmp_gt (tgt := 109) K.1 dX9_copy_91 (by decide) (fun c91 => ?_) (fun c91 => ?_)
                    · refine V_iconst (v := 0) K.1 dX9_copy_109 (by decide) ?_
                      exact V_top ((((if_neg c71).trans (if_neg c76)).trans (if_neg c81)).trans (if_pos c91)) hJ7
                    · refine V_iload 4 K.1 dX9_copy_94 rfl ?_
                      refine V_aload_n 0 K.1 dX9_copy_96 rfl rfl ?_
                      refine V_get (v := .ref (ω.2.2.1 37)) K.1 dX9_copy_97 rfl rfl fw_X9_13 rfl rfl ?_
                      refine V_iload_n 3 K.1 dX9_copy_100 rfl rfl ?_
                      refine V_iaload (v := (σ.2.1 37 (x3).toNatClampNeg)) K.1 dX9_copy_101 rfl (b9 c9 c16 c29 c40 c61 c71 c76 c81 c91) rfl ?_
                      refine V_icmp_gt (tgt := 109) K.1 dX9_copy_102 (by decide) (fun c102 => ?_) (fun c102 => ?_)
                      · refine V_iconst (v := 0) K.1 dX9_copy_109 (by decide) ?_
                        exact V_top (((((if_neg c71).trans (if_neg c76)).trans (if_neg c81)).trans (if_neg c91)).trans (if_pos c102)) hJ7
                      · refine V_iconst (v := 1) K.1 dX9_copy_105 (by decide) ?_
                        refine V_goto (tgt := 110) K.1 dX9_copy_106 (by decide) ?_
                        exact V_top (((((if_neg c71).trans (if_neg c76)).trans (if_neg c81)).trans (if_neg c91)).trans (if_neg c102)) hJ7
            refine V_istore (L' := [(0, .ref (ω.2.2.1 35)), (1, .int x1), (2, .int x2), (3, .int x3), (4, .int x4), (5, .int x5), (6, .int (if (x2 < 0) then (0 : Int32) else (if (x4 < 0) then (0 : Int32) else (if (x5 < 0) then (0 : Int32) else (if ((σ.2.1 37 (x1).toNatClampNeg) < x2) then (0 : Int32) else (if ((σ.2.1 37 (x3).toNatClampNeg) < x4) then (0 : Int32) else (1 : Int32)))))))]) K.1 dX9_copy_110 (by decide) rfl ?_
            refine V_iload 6 K.1 dX9_copy_112 rfl ?_
            refine V_if_eq (tgt := 144) K.1 dX9_copy_114 (by decide) (fun c114 => ?_) (fun c114 => ?_)
            · refine V_aload_n 0 K.1 dX9_copy_144 rfl rfl ?_
              refine V_iconst (v := 3) K.1 dX9_copy_145 (by decide) ?_
              refine V_callV (d' := d - 1) (As := [.int (3 : Int32)]) K.1 dX9_copy_146 cw_X9_111 rfl rfl rfl (by omega) rfl (by simp [Value.category]) (m_X9_fails K.1.wf (by omega)) (go_I ?_)
              exact V_iret K dX9_copy_149 (k10 c9 c16 c29 c40 c61 c114)
            · refine V_iload 5 K.1 dX9_copy_117 rfl ?_
              refine V_aload_n 0 K.1 dX9_copy_119 rfl rfl ?_
              refine V_get (v := .ref (ω.2.2.1 37)) K.1 dX9_copy_120 rfl rfl fw_X9_13 rfl rfl ?_
              refine V_iload_n 1 K.1 dX9_copy_123 rfl rfl ?_
              refine V_iaload (v := (σ.2.1 37 (x1).toNatClampNeg)) K.1 dX9_copy_124 rfl (b11 c9 c16 c29 c40 c61 c114) rfl ?_
              refine V_iload_n 2 K.1 dX9_copy_125 rfl rfl ?_
              refine V_isub K.1 dX9_copy_126 ?_
              refine V_icmp_gt (tgt := 144) K.1 dX9_copy_127 (by decide) (fun c127 => ?_) (fun c127 => ?_)
              · refine V_aload_n 0 K.1 dX9_copy_144 rfl rfl ?_
                refine V_iconst (v := 3) K.1 dX9_copy_145 (by decide) ?_
                refine V_callV (d' := d - 1) (As := [.int (3 : Int32)]) K.1 dX9_copy_146 cw_X9_111 rfl rfl rfl (by omega) rfl (by simp [Value.category]) (m_X9_fails K.1.wf (by omega)) (go_I ?_)
                exact V_iret K dX9_copy_149 (k12 c9 c16 c29 c40 c61 c114 c127)
              · refine V_iload 5 K.1 dX9_copy_130 rfl ?_
                refine V_aload_n 0 K.1 dX9_copy_132 rfl rfl ?_
                refine V_get (v := .ref (ω.2.2.1 37)) K.1 dX9_copy_133 rfl rfl fw_X9_13 rfl rfl ?_
                refine V_iload_n 3 K.1 dX9_copy_136 rfl rfl ?_
                refine V_iaload (v := (σ.2.1 37 (x3).toNatClampNeg)) K.1 dX9_copy_137 rfl (b13 c9 c16 c29 c40 c61 c114 c127) rfl ?_
                refine V_iload 4 K.1 dX9_copy_138 rfl ?_
                refine V_isub K.1 dX9_copy_140 ?_
                refine V_icmp_le (tgt := 150) K.1 dX9_copy_141 (by decide) (fun c141 => ?_) (fun c141 => ?_)
                · refine V_iload_n 2 K.1 dX9_copy_150 rfl rfl ?_
                  refine V_iload 4 K.1 dX9_copy_151 rfl ?_
                  refine V_join (J := 161) (S := []) (v := .int (if (x4 ≤ x2) then (0 : Int32) else (1 : Int32))) (fun hJ14 => ?_) ?_
                  · refine V_icmp_ge (tgt := 160) K.1 dX9_copy_153 (by decide) (fun c153 => ?_) (fun c153 => ?_)
                    · refine V_iconst (v := 0) K.1 dX9_copy_160 (by decide) ?_
                      exact V_top (if_pos c153) hJ14
                    · refine V_iconst (v := 1) K.1 dX9_copy_156 (by decide) ?_
                      refine V_goto (tgt := 161) K.1 dX9_copy_157 (by decide) ?_
                      exact V_top (if_neg c153) hJ14
                  refine V_istore (L' := [(0, .ref (ω.2.2.1 35)), (1, .int x1), (2, .int x2), (3, .int x3), (4, .int x4), (5, .int x5), (6, .int (if (x2 < 0) then (0 : Int32) else (if (x4 < 0) then (0 : Int32) else (if (x5 < 0) then (0 : Int32) else (if ((σ.2.1 37 (x1).toNatClampNeg) < x2) then (0 : Int32) else (if ((σ.2.1 37 (x3).toNatClampNeg) < x4) then (0 : Int32) else (1 : Int32))))))), (7, .int (if (x4 ≤ x2) then (0 : Int32) else (1 : Int32)))]) K.1 dX9_copy_161 (by decide) rfl ?_
                  refine V_iconst (v := 0) K.1 dX9_copy_163 (by decide) ?_
                  refine V_istore (L' := [(0, .ref (ω.2.2.1 35)), (1, .int x1), (2, .int x2), (3, .int x3), (4, .int x4), (5, .int x5), (6, .int (if (x2 < 0) then (0 : Int32) else (if (x4 < 0) then (0 : Int32) else (if (x5 < 0) then (0 : Int32) else (if ((σ.2.1 37 (x1).toNatClampNeg) < x2) then (0 : Int32) else (if ((σ.2.1 37 (x3).toNatClampNeg) < x4) then (0 : Int32) else (1 : Int32))))))), (7, .int (if (x4 ≤ x2) then (0 : Int32) else (1 : Int32))), (8, .int (0 : Int32))]) K.1 dX9_copy_164 (by decide) rfl ?_
                  exact V_sub [0, 1, 2, 3, 4, 5, 7, 8] rfl (k15 c9 c16 c29 c40 c61 c114 c127 c141)
                · refine V_aload_n 0 K.1 dX9_copy_144 rfl rfl ?_
                  refine V_iconst (v := 3) K.1 dX9_copy_145 (by decide) ?_
                  refine V_callV (d' := d - 1) (As := [.int (3 : Int32)]) K.1 dX9_copy_146 cw_X9_111 rfl rfl rfl (by omega) rfl (by simp [Value.category]) (m_X9_fails K.1.wf (by omega)) (go_I ?_)
                  exact V_iret K dX9_copy_149 (k16 c9 c16 c29 c40 c61 c114 c127 c141)
          · refine V_aload_n 0 K.1 dX9_copy_64 rfl rfl ?_
            refine V_iconst (v := 2) K.1 dX9_copy_65 (by decide) ?_
            refine V_callV (d' := d - 1) (As := [.int (2 : Int32)]) K.1 dX9_copy_66 cw_X9_111 rfl rfl rfl (by omega) rfl (by simp [Value.category]) (m_X9_fails K.1.wf (by omega)) (go_I ?_)
            exact V_iret K dX9_copy_69 (k17 c9 c16 c29 c40 c61)
        · refine V_aload_n 0 K.1 dX9_copy_43 rfl rfl ?_
          refine V_iconst (v := 1) K.1 dX9_copy_44 (by decide) ?_
          refine V_callV (d' := d - 1) (As := [.int (1 : Int32)]) K.1 dX9_copy_45 cw_X9_111 rfl rfl rfl (by omega) rfl (by simp [Value.category]) (m_X9_fails K.1.wf (by omega)) (go_I ?_)
          exact V_iret K dX9_copy_48 (k18 c9 c16 c29 c40)
    · refine V_iconst (v := -1) K.1 dX9_copy_19 (by decide) ?_
      exact V_iret K dX9_copy_20 (k19 c9 c16)
set_option maxRecDepth 20000 in
theorem R_X9_copy_166 {ω : WT} {κ : KT} {l : Launch} {d : Nat} {post : Option Value → St → Prop} {σ : St} {x1 x2 x3 x4 x5 x7 x8 : Int32}  (K : Cm ω κ l yX9_copy cX9_copy 10 d (some .int) post)
    (k1 : (x5 ≤ x8) → post (some (.int x5)) σ)
    (b3 : ¬ (x5 ≤ x8) → vp_in ((((80 : Int32) * x1) + x2) + (if (x7 = 0) then x8 else ((x5 - (1 : Int32)) - x8))) 320)
    (b4 : ¬ (x5 ≤ x8) → vp_in ((((80 : Int32) * x3) + x4) + (if (x7 = 0) then x8 else ((x5 - (1 : Int32)) - x8))) 320)
    (k5 : ¬ (x5 ≤ x8) → V ω κ 166 [(0, .ref (ω.2.2.1 35)), (1, .int x1), (2, .int x2), (3, .int x3), (4, .int x4), (5, .int x5), (7, .int x7), (8, .int (x8 + 1))] [] (pA σ 38 (((((80 : Int32) * x3) + x4) + (if (x7 = 0) then x8 else ((x5 - (1 : Int32)) - x8)))).toNatClampNeg (σ.2.1 38 (((((80 : Int32) * x1) + x2) + (if (x7 = 0) then x8 else ((x5 - (1 : Int32)) - x8)))).toNatClampNeg))) :
    V ω κ 166 [(0, .ref (ω.2.2.1 35)), (1, .int x1), (2, .int x2), (3, .int x3), (4, .int x4), (5, .int x5), (7, .int x7), (8, .int x8)] [] σ := by
  refine V_iload 7 K.1 dX9_copy_166 rfl ?_
  refine V_iload 5 K.1 dX9_copy_168 rfl ?_
  refine V_icmp_ge (tgt := 227) K.1 dX9_copy_170 (by decide) (fun c170 => ?_) (fun c170 => ?_)
  · refine V_iload 5 K.1 dX9_copy_227 rfl ?_
    exact V_iret K dX9_copy_229 (k1 c170)
  · refine V_iload 6 K.1 dX9_copy_173 rfl ?_
    refine V_join (J := 190) (S := []) (v := .int (if (x7 = 0) then x8 else ((x5 - (1 : Int32)) - x8))) (fun hJ2 => ?_) ?_
    · refine V_if_eq (tgt := 188) K.1 dX9_copy_175 (by decide) (fun c175 => ?_) (fun c175 => ?_)
      · refine V_iload 7 K.1 dX9_copy_188 rfl ?_
        exact V_top (if_pos c175) hJ2
      · refine V_iload 5 K.1 dX9_copy_178 rfl ?_
        refine V_iconst (v := 1) K.1 dX9_copy_180 (by decide) ?_
        refine V_isub K.1 dX9_copy_181 ?_
        refine V_iload 7 K.1 dX9_copy_182 rfl ?_
        refine V_isub K.1 dX9_copy_184 ?_
        refine V_goto (tgt := 190) K.1 dX9_copy_185 (by decide) ?_
        exact V_top (if_neg c175) hJ2
    refine V_istore (L' := [(0, .ref (ω.2.2.1 35)), (1, .int x1), (2, .int x2), (3, .int x3), (4, .int x4), (5, .int x5), (7, .int x7), (8, .int x8), (9, .int (if (x7 = 0) then x8 else ((x5 - (1 : Int32)) - x8)))]) K.1 dX9_copy_190 (by decide) rfl ?_
    refine V_aload_n 0 K.1 dX9_copy_192 rfl rfl ?_
    refine V_get (v := .ref (ω.2.2.1 38)) K.1 dX9_copy_193 rfl rfl fw_X9_16 rfl rfl ?_
    refine V_bipush (v := 80) K.1 dX9_copy_196 (by decide) ?_
    refine V_iload_n 3 K.1 dX9_copy_198 rfl rfl ?_
    refine V_imul K.1 dX9_copy_199 ?_
    refine V_iload 4 K.1 dX9_copy_200 rfl ?_
    refine V_iadd K.1 dX9_copy_202 ?_
    refine V_iload 8 K.1 dX9_copy_203 rfl ?_
    refine V_iadd K.1 dX9_copy_205 ?_
    refine V_aload_n 0 K.1 dX9_copy_206 rfl rfl ?_
    refine V_get (v := .ref (ω.2.2.1 38)) K.1 dX9_copy_207 rfl rfl fw_X9_16 rfl rfl ?_
    refine V_bipush (v := 80) K.1 dX9_copy_210 (by decide) ?_
    refine V_iload_n 1 K.1 dX9_copy_212 rfl rfl ?_
    refine V_imul K.1 dX9_copy_213 ?_
    refine V_iload_n 2 K.1 dX9_copy_214 rfl rfl ?_
    refine V_iadd K.1 dX9_copy_215 ?_
    refine V_iload 8 K.1 dX9_copy_216 rfl ?_
    refine V_iadd K.1 dX9_copy_218 ?_
    refine V_iaload (v := (σ.2.1 38 (((((80 : Int32) * x1) + x2) + (if (x7 = 0) then x8 else ((x5 - (1 : Int32)) - x8)))).toNatClampNeg)) K.1 dX9_copy_219 rfl (b3 c170) rfl ?_
    refine V_iastore K.1 dX9_copy_220 rfl (b4 c170) ?_
    refine V_iinc (v := (x8 + 1)) (L' := [(0, .ref (ω.2.2.1 35)), (1, .int x1), (2, .int x2), (3, .int x3), (4, .int x4), (5, .int x5), (7, .int x7), (8, .int (x8 + 1)), (9, .int (if (x7 = 0) then x8 else ((x5 - (1 : Int32)) - x8)))]) 7 K.1 dX9_copy_221 rfl rfl (by decide) rfl ?_
    refine V_goto (tgt := 166) K.1 dX9_copy_224 (by decide) ?_
    exact V_sub [0, 1, 2, 3, 4, 5, 6, 7] rfl (k5 c170)
set_option maxRecDepth 20000 in
theorem R_X8_tellAsFollower_0 {ω : WT} {κ : KT} {l : Launch} {d : Nat} {post : Option Value → St → Prop} {σ : St} {x1 : Int32}  (K : Cm ω κ l yX8_tellAsFollower cX8_tellAsFollower 2 d (some .int) post) (hdp : 1 ≤ d)
    (k1 : V ω κ 7 [] [.int x1, .ref (ω.2.2.1 0)] (pS σ 8 (((31 : Int32) * (σ.1 8)) + (2 : Int32)))) :
    V ω κ 0 [(0, .ref (ω.2.2.1 0)), (1, .int x1)] [] σ := by
  refine V_aload_n 0 K.1 dX8_tellAsFollower_0 rfl rfl ?_
  refine V_iconst (v := 2) K.1 dX8_tellAsFollower_1 (by decide) ?_
  refine V_callV (d' := d - 1) (As := [.int (2 : Int32)]) K.1 dX8_tellAsFollower_2 cw_X8_271 rfl rfl rfl (by omega) rfl (by simp [Value.category]) (m_X8_leave K.1.wf (by omega)) (go_V ?_)
  refine V_aload_n 0 K.1 dX8_tellAsFollower_5 rfl rfl ?_
  refine V_iload_n 1 K.1 dX8_tellAsFollower_6 rfl rfl ?_
  exact V_sub [] rfl k1
set_option maxRecDepth 20000 in
theorem R_X8_tellAsFollower_10 {ω : WT} {κ : KT} {l : Launch} {d : Nat} {post : Option Value → St → Prop} {σ : St} {s0 : Int32}  (K : Cm ω κ l yX8_tellAsFollower cX8_tellAsFollower 2 d (some .int) post)
    (k1 : post (some (.int (s0 + (100 : Int32)))) σ) :
    V ω κ 10 [] [.int s0] σ := by
  refine V_bipush (v := 100) K.1 dX8_tellAsFollower_10 (by decide) ?_
  refine V_iadd K.1 dX8_tellAsFollower_12 ?_
  exact V_iret K dX8_tellAsFollower_13 k1
set_option maxRecDepth 20000 in
theorem C_X8_tellAsFollower_7 {ω : WT} {κ : KT} {l : Launch} {d : Nat} {post : Option Value → St → Prop} {σ : St} {s1 : Int32}  {post' : Option Value → St → Prop} (K : Cm ω κ l yX8_tellAsFollower cX8_tellAsFollower 2 d (some .int) post) (hdp : 1 ≤ d) (hM : Sp ω l yX8_tellAsHonest cX8_tellAsHonest 4 (some .int) (d - 1) [.ref (ω.2.2.1 0), .int s1] σ post')
    (kk : ∀ (v : Option Value) (σ' : St), post' v σ' → V ω κ 10 [] (v.toList ++ []) σ') : V ω κ 7 [] [.int s1, .ref (ω.2.2.1 0)] σ := by
  exact V_callV (d' := d - 1) (As := [.int s1]) (rest := []) K.1 dX8_tellAsFollower_7 cw_X8_262 rfl rfl rfl (by omega) rfl (by simp [Value.category]) hM (fun v σ' h => kk v σ' h)
set_option maxRecDepth 20000 in
theorem R_X8_tellAsContrary_0 {ω : WT} {κ : KT} {l : Launch} {d : Nat} {post : Option Value → St → Prop} {σ : St} {x1 : Int32}  (K : Cm ω κ l yX8_tellAsContrary cX8_tellAsContrary 3 d (some .int) post) (hdp : 1 ≤ d)
    (k1 : V ω κ 7 [(0, .ref (ω.2.2.1 0)), (1, .int x1)] [.int x1, .ref (ω.2.2.1 0)] (pS σ 8 (((31 : Int32) * (σ.1 8)) + (3 : Int32)))) :
    V ω κ 0 [(0, .ref (ω.2.2.1 0)), (1, .int x1)] [] σ := by
  refine V_aload_n 0 K.1 dX8_tellAsContrary_0 rfl rfl ?_
  refine V_iconst (v := 3) K.1 dX8_tellAsContrary_1 (by decide) ?_
  refine V_callV (d' := d - 1) (As := [.int (3 : Int32)]) K.1 dX8_tellAsContrary_2 cw_X8_271 rfl rfl rfl (by omega) rfl (by simp [Value.category]) (m_X8_leave K.1.wf (by omega)) (go_V ?_)
  refine V_aload_n 0 K.1 dX8_tellAsContrary_5 rfl rfl ?_
  refine V_iload_n 1 K.1 dX8_tellAsContrary_6 rfl rfl ?_
  exact k1
set_option maxRecDepth 20000 in
theorem R_X8_tellAsContrary_10 {ω : WT} {κ : KT} {l : Launch} {d : Nat} {post : Option Value → St → Prop} {σ : St} {x1 s0 : Int32}  (K : Cm ω κ l yX8_tellAsContrary cX8_tellAsContrary 3 d (some .int) post)
    (k1 : V ω κ 14 [] [.int x1, .ref (ω.2.2.1 0), .int s0] σ) :
    V ω κ 10 [(0, .ref (ω.2.2.1 0)), (1, .int x1)] [.int s0] σ := by
  refine V_istore_n (L' := [(0, .ref (ω.2.2.1 0)), (1, .int x1), (2, .int s0)]) K.1 dX8_tellAsContrary_10 rfl (by decide) rfl ?_
  refine V_iload_n 2 K.1 dX8_tellAsContrary_11 rfl rfl ?_
  refine V_aload_n 0 K.1 dX8_tellAsContrary_12 rfl rfl ?_
  refine V_iload_n 1 K.1 dX8_tellAsContrary_13 rfl rfl ?_
  exact V_sub [] rfl k1
set_option maxRecDepth 20000 in
theorem R_X8_tellAsContrary_17 {ω : WT} {κ : KT} {l : Launch} {d : Nat} {post : Option Value → St → Prop} {σ : St} {s0 s1 : Int32}  (K : Cm ω κ l yX8_tellAsContrary cX8_tellAsContrary 3 d (some .int) post)
    (k1 : post (some (.int (s0 + s1))) σ) :
    V ω κ 17 [] [.int s1, .int s0] σ := by
  refine V_iadd K.1 dX8_tellAsContrary_17 ?_
  exact V_iret K dX8_tellAsContrary_18 k1
set_option maxRecDepth 20000 in
theorem C_X8_tellAsContrary_7 {ω : WT} {κ : KT} {l : Launch} {d : Nat} {post : Option Value → St → Prop} {σ : St} {x1 s1 : Int32}  {post' : Option Value → St → Prop} (K : Cm ω κ l yX8_tellAsContrary cX8_tellAsContrary 3 d (some .int) post) (hdp : 1 ≤ d) (hM : Sp ω l yX8_tellAsFollower cX8_tellAsFollower 2 (some .int) (d - 1) [.ref (ω.2.2.1 0), .int s1] σ post')
    (kk : ∀ (v : Option Value) (σ' : St), post' v σ' → V ω κ 10 [(0, .ref (ω.2.2.1 0)), (1, .int x1)] (v.toList ++ []) σ') : V ω κ 7 [(0, .ref (ω.2.2.1 0)), (1, .int x1)] [.int s1, .ref (ω.2.2.1 0)] σ := by
  exact V_callV (d' := d - 1) (As := [.int s1]) (rest := []) K.1 dX8_tellAsContrary_7 cw_X8_265 rfl rfl rfl (by omega) rfl (by simp [Value.category]) hM (fun v σ' h => kk v σ' h)
set_option maxRecDepth 20000 in
theorem C_X8_tellAsContrary_14 {ω : WT} {κ : KT} {l : Launch} {d : Nat} {post : Option Value → St → Prop} {σ : St} {s0 s2 : Int32}  {post' : Option Value → St → Prop} (K : Cm ω κ l yX8_tellAsContrary cX8_tellAsContrary 3 d (some .int) post) (hdp : 1 ≤ d) (hM : Sp ω l yX8_tellAsHonest cX8_tellAsHonest 4 (some .int) (d - 1) [.ref (ω.2.2.1 0), .int s2] σ post')
    (kk : ∀ (v : Option Value) (σ' : St), post' v σ' → V ω κ 17 [] (v.toList ++ [.int s0]) σ') : V ω κ 14 [] [.int s2, .ref (ω.2.2.1 0), .int s0] σ := by
  exact V_callV (d' := d - 1) (As := [.int s2]) (rest := [.int s0]) K.1 dX8_tellAsContrary_14 cw_X8_262 rfl rfl rfl (by omega) rfl (by simp [Value.category]) hM (fun v σ' h => kk v σ' h)
set_option maxRecDepth 20000 in
theorem R_X8_tell_0 {ω : WT} {κ : KT} {l : Launch} {d : Nat} {post : Option Value → St → Prop} {σ : St} {x1 : Int32}  (K : Cm ω κ l yX8_tell cX8_tell 2 d (some .int) post) (hdp : 1 ≤ d)
    (b1 : ¬ ((if (x1 < 0) then (0 : Int32) else (if ((σ.1 640) ≤ x1) then (0 : Int32) else (1 : Int32))) = 0) → vp_in x1 8)
    (k2 : ¬ ((if (x1 < 0) then (0 : Int32) else (if ((σ.1 640) ≤ x1) then (0 : Int32) else (1 : Int32))) = 0) → ((σ.2.1 11 (x1).toNatClampNeg) = 0) → V ω κ 50 [] [.int x1, .ref (ω.2.2.1 0)] σ)
    (k3 : ¬ ((if (x1 < 0) then (0 : Int32) else (if ((σ.1 640) ≤ x1) then (0 : Int32) else (1 : Int32))) = 0) → ¬ ((σ.2.1 11 (x1).toNatClampNeg) = 0) → ((σ.2.1 11 (x1).toNatClampNeg) = 1) → V ω κ 56 [] [.int x1, .ref (ω.2.2.1 0)] σ)
    (k4 : ¬ ((if (x1 < 0) then (0 : Int32) else (if ((σ.1 640) ≤ x1) then (0 : Int32) else (1 : Int32))) = 0) → ¬ ((σ.2.1 11 (x1).toNatClampNeg) = 0) → ¬ ((σ.2.1 11 (x1).toNatClampNeg) = 1) → V ω κ 62 [] [.int x1, .ref (ω.2.2.1 0)] σ)
    (k5 : ((if (x1 < 0) then (0 : Int32) else (if ((σ.1 640) ≤ x1) then (0 : Int32) else (1 : Int32))) = 0) → post (some (.int (-1 : Int32))) σ) :
    V ω κ 0 [(0, .ref (ω.2.2.1 0)), (1, .int x1)] [] σ := by
  refine V_aload_n 0 K.1 dX8_tell_0 rfl rfl ?_
  refine V_get (v := .ref (ω.2.2.1 10)) K.1 dX8_tell_1 rfl rfl fw_X8_21 rfl rfl ?_
  refine V_iload_n 1 K.1 dX8_tell_4 rfl rfl ?_
  refine V_callV (d' := d - 1) (As := [.int x1]) K.1 dX8_tell_5 cw_X8_89 rfl rfl rfl (by omega) rfl (by simp [Value.category]) (m_X7_hasOne K.1.wf (by omega)) (go_I ?_)
  refine V_if_ne (tgt := 13) K.1 dX8_tell_8 (by decide) (fun c8 => ?_) (fun c8 => ?_)
  · refine V_aload_n 0 K.1 dX8_tell_13 rfl rfl ?_
    refine V_get (v := .ref (ω.2.2.1 10)) K.1 dX8_tell_14 rfl rfl fw_X8_21 rfl rfl ?_
    refine V_get (v := .ref (ω.2.2.1 11)) K.1 dX8_tell_17 rfl rfl fw_X8_93 rfl rfl ?_
    refine V_iload_n 1 K.1 dX8_tell_20 rfl rfl ?_
    refine V_iaload (v := (σ.2.1 11 (x1).toNatClampNeg)) K.1 dX8_tell_21 rfl (b1 c8) rfl ?_
    by_cases c22_0 : (σ.2.1 11 (x1).toNatClampNeg) = 0
    · refine V_lookup (off := 26) (tgt := 48) K.1 dX8_tell_22 (by decide) (by rw [c22_0]; decide) (by decide) ?_
      refine V_aload_n 0 K.1 dX8_tell_48 rfl rfl ?_
      refine V_iload_n 1 K.1 dX8_tell_49 rfl rfl ?_
      exact V_sub [] rfl (k2 c8 c22_0)
    by_cases c22_1 : (σ.2.1 11 (x1).toNatClampNeg) = 1
    · refine V_lookup (off := 32) (tgt := 54) K.1 dX8_tell_22 (by decide) (by rw [c22_1]; decide) (by decide) ?_
      refine V_aload_n 0 K.1 dX8_tell_54 rfl rfl ?_
      refine V_iload_n 1 K.1 dX8_tell_55 rfl rfl ?_
      exact V_sub [] rfl (k3 c8 c22_0 c22_1)
    refine V_lookup (off := 38) (tgt := 60) K.1 dX8_tell_22 (by decide) (by show Op.lookupswitch.offset [(0, 26), (1, 32)] 38 _ = _; rw [lv_osw c22_0 (by decide), lv_osw c22_1 (by decide)]; rfl) (by decide) ?_
    refine V_aload_n 0 K.1 dX8_tell_60 rfl rfl ?_
    refine V_iload_n 1 K.1 dX8_tell_61 rfl rfl ?_
    exact V_sub [] rfl (k4 c8 c22_0 c22_1)
  · refine V_iconst (v := -1) K.1 dX8_tell_11 (by decide) ?_
    exact V_iret K dX8_tell_12 (k5 c8)
set_option maxRecDepth 20000 in
theorem R_X8_tell_53 {ω : WT} {κ : KT} {l : Launch} {d : Nat} {post : Option Value → St → Prop} {σ : St} {s0 : Int32}  (K : Cm ω κ l yX8_tell cX8_tell 2 d (some .int) post)
    (k1 : post (some (.int s0)) σ) :
    V ω κ 53 [] [.int s0] σ := by
  exact V_iret K dX8_tell_53 k1
set_option maxRecDepth 20000 in
theorem R_X8_tell_59 {ω : WT} {κ : KT} {l : Launch} {d : Nat} {post : Option Value → St → Prop} {σ : St} {s0 : Int32}  (K : Cm ω κ l yX8_tell cX8_tell 2 d (some .int) post)
    (k1 : post (some (.int s0)) σ) :
    V ω κ 59 [] [.int s0] σ := by
  exact V_iret K dX8_tell_59 k1
set_option maxRecDepth 20000 in
theorem R_X8_tell_65 {ω : WT} {κ : KT} {l : Launch} {d : Nat} {post : Option Value → St → Prop} {σ : St} {s0 : Int32}  (K : Cm ω κ l yX8_tell cX8_tell 2 d (some .int) post)
    (k1 : post (some (.int s0)) σ) :
    V ω κ 65 [] [.int s0] σ := by
  exact V_iret K dX8_tell_65 k1
set_option maxRecDepth 20000 in
theorem C_X8_tell_50 {ω : WT} {κ : KT} {l : Launch} {d : Nat} {post : Option Value → St → Prop} {σ : St} {s1 : Int32}  {post' : Option Value → St → Prop} (K : Cm ω κ l yX8_tell cX8_tell 2 d (some .int) post) (hdp : 1 ≤ d) (hM : Sp ω l yX8_tellAsHonest cX8_tellAsHonest 4 (some .int) (d - 1) [.ref (ω.2.2.1 0), .int s1] σ post')
    (kk : ∀ (v : Option Value) (σ' : St), post' v σ' → V ω κ 53 [] (v.toList ++ []) σ') : V ω κ 50 [] [.int s1, .ref (ω.2.2.1 0)] σ := by
  exact V_callV (d' := d - 1) (As := [.int s1]) (rest := []) K.1 dX8_tell_50 cw_X8_262 rfl rfl rfl (by omega) rfl (by simp [Value.category]) hM (fun v σ' h => kk v σ' h)
set_option maxRecDepth 20000 in
theorem C_X8_tell_56 {ω : WT} {κ : KT} {l : Launch} {d : Nat} {post : Option Value → St → Prop} {σ : St} {s1 : Int32}  {post' : Option Value → St → Prop} (K : Cm ω κ l yX8_tell cX8_tell 2 d (some .int) post) (hdp : 1 ≤ d) (hM : Sp ω l yX8_tellAsFollower cX8_tellAsFollower 2 (some .int) (d - 1) [.ref (ω.2.2.1 0), .int s1] σ post')
    (kk : ∀ (v : Option Value) (σ' : St), post' v σ' → V ω κ 59 [] (v.toList ++ []) σ') : V ω κ 56 [] [.int s1, .ref (ω.2.2.1 0)] σ := by
  exact V_callV (d' := d - 1) (As := [.int s1]) (rest := []) K.1 dX8_tell_56 cw_X8_265 rfl rfl rfl (by omega) rfl (by simp [Value.category]) hM (fun v σ' h => kk v σ' h)
set_option maxRecDepth 20000 in
theorem C_X8_tell_62 {ω : WT} {κ : KT} {l : Launch} {d : Nat} {post : Option Value → St → Prop} {σ : St} {s1 : Int32}  {post' : Option Value → St → Prop} (K : Cm ω κ l yX8_tell cX8_tell 2 d (some .int) post) (hdp : 1 ≤ d) (hM : Sp ω l yX8_tellAsContrary cX8_tellAsContrary 3 (some .int) (d - 1) [.ref (ω.2.2.1 0), .int s1] σ post')
    (kk : ∀ (v : Option Value) (σ' : St), post' v σ' → V ω κ 65 [] (v.toList ++ []) σ') : V ω κ 62 [] [.int s1, .ref (ω.2.2.1 0)] σ := by
  exact V_callV (d' := d - 1) (As := [.int s1]) (rest := []) K.1 dX8_tell_62 cw_X8_268 rfl rfl rfl (by omega) rfl (by simp [Value.category]) hM (fun v σ' h => kk v σ' h)
set_option maxRecDepth 20000 in
theorem R_X9_tell_0 {ω : WT} {κ : KT} {l : Launch} {d : Nat} {post : Option Value → St → Prop} {σ : St} {x1 : Int32}  (K : Cm ω κ l yX9_tell cX9_tell 3 d (some .int) post) (hdp : 1 ≤ d)
    (b1 : ¬ ((if (x1 < 0) then (0 : Int32) else (if ((σ.1 2245) ≤ x1) then (0 : Int32) else (1 : Int32))) = 0) → vp_in x1 8)
    (b2 : ¬ ((if (x1 < 0) then (0 : Int32) else (if ((σ.1 2245) ≤ x1) then (0 : Int32) else (1 : Int32))) = 0) → vp_in x1 8)
    (k3 : ¬ ((if (x1 < 0) then (0 : Int32) else (if ((σ.1 2245) ≤ x1) then (0 : Int32) else (1 : Int32))) = 0) → ((σ.2.1 39 (x1).toNatClampNeg) = 1) → post (some (.int ((F_bits (σ.2.1 40 (x1).toNatClampNeg) 20) + (100 : Int32)))) (pS (pS σ 2241 (((31 : Int32) * (σ.1 2241)) + (2 : Int32))) 2241 (((31 : Int32) * (((31 : Int32) * (σ.1 2241)) + (2 : Int32))) + (1 : Int32))))
    (k4 : ¬ ((if (x1 < 0) then (0 : Int32) else (if ((σ.1 2245) ≤ x1) then (0 : Int32) else (1 : Int32))) = 0) → ¬ ((σ.2.1 39 (x1).toNatClampNeg) = 1) → ((σ.2.1 39 (x1).toNatClampNeg) = 2) → post (some (.int (((2 : Int32) * (F_bits (σ.2.1 40 (x1).toNatClampNeg) 20)) + (100 : Int32)))) (pS (pS (pS (pS σ 2241 (((31 : Int32) * (σ.1 2241)) + (3 : Int32))) 2241 (((31 : Int32) * (((31 : Int32) * (σ.1 2241)) + (3 : Int32))) + (2 : Int32))) 2241 (((31 : Int32) * (((31 : Int32) * (((31 : Int32) * (σ.1 2241)) + (3 : Int32))) + (2 : Int32))) + (1 : Int32))) 2241 (((31 : Int32) * (((31 : Int32) * (((31 : Int32) * (((31 : Int32) * (σ.1 2241)) + (3 : Int32))) + (2 : Int32))) + (1 : Int32))) + (1 : Int32))))
    (k5 : ¬ ((if (x1 < 0) then (0 : Int32) else (if ((σ.1 2245) ≤ x1) then (0 : Int32) else (1 : Int32))) = 0) → ¬ ((σ.2.1 39 (x1).toNatClampNeg) = 1) → ¬ ((σ.2.1 39 (x1).toNatClampNeg) = 2) → post (some (.int (F_bits (σ.2.1 40 (x1).toNatClampNeg) 20))) (pS σ 2241 (((31 : Int32) * (σ.1 2241)) + (1 : Int32))))
    (k6 : ((if (x1 < 0) then (0 : Int32) else (if ((σ.1 2245) ≤ x1) then (0 : Int32) else (1 : Int32))) = 0) → post (some (.int (-1 : Int32))) σ) :
    V ω κ 0 [(0, .ref (ω.2.2.1 35)), (1, .int x1)] [] σ := by
  refine V_aload_n 0 K.1 dX9_tell_0 rfl rfl ?_
  refine V_iload_n 1 K.1 dX9_tell_1 rfl rfl ?_
  refine V_callV (d' := d - 1) (As := [.int x1]) K.1 dX9_tell_2 cw_X9_140 rfl rfl rfl (by omega) rfl (by simp [Value.category]) (m_X9_isOne K.1.wf (by omega)) (go_I ?_)
  refine V_if_ne (tgt := 10) K.1 dX9_tell_5 (by decide) (fun c5 => ?_) (fun c5 => ?_)
  · refine V_aload_n 0 K.1 dX9_tell_10 rfl rfl ?_
    refine V_get (v := .ref (ω.2.2.1 40)) K.1 dX9_tell_11 rfl rfl fw_X9_22 rfl rfl ?_
    refine V_iload_n 1 K.1 dX9_tell_14 rfl rfl ?_
    refine V_iaload (v := (σ.2.1 40 (x1).toNatClampNeg)) K.1 dX9_tell_15 rfl (b1 c5) rfl ?_
    refine V_callS (d' := d - 1) (As := [.int (σ.2.1 40 (x1).toNatClampNeg)]) K.1 dX9_tell_16 cw_X9_235 rfl (by omega) rfl (by simp [Value.category]) (m_X9_bits K.1.wf (by omega)) (go_I ?_)
    refine V_istore_n (L' := [(0, .ref (ω.2.2.1 35)), (1, .int x1), (2, .int (F_bits (σ.2.1 40 (x1).toNatClampNeg) 20))]) K.1 dX9_tell_19 rfl (by decide) rfl ?_
    refine V_aload_n 0 K.1 dX9_tell_20 rfl rfl ?_
    refine V_get (v := .ref (ω.2.2.1 39)) K.1 dX9_tell_21 rfl rfl fw_X9_19 rfl rfl ?_
    refine V_iload_n 1 K.1 dX9_tell_24 rfl rfl ?_
    refine V_iaload (v := (σ.2.1 39 (x1).toNatClampNeg)) K.1 dX9_tell_25 rfl (b2 c5) rfl ?_
    by_cases c26_1 : (σ.2.1 39 (x1).toNatClampNeg) = 1
    · refine V_lookup (off := 26) (tgt := 52) K.1 dX9_tell_26 (by decide) (by rw [c26_1]; decide) (by decide) ?_
      refine V_aload_n 0 K.1 dX9_tell_52 rfl rfl ?_
      refine V_iconst (v := 2) K.1 dX9_tell_53 (by decide) ?_
      refine V_callV (d' := d - 1) (As := [.int (2 : Int32)]) K.1 dX9_tell_54 cw_X9_298 rfl rfl rfl (by omega) rfl (by simp [Value.category]) (m_X9_begins K.1.wf (by omega)) (go_V ?_)
      refine V_aload_n 0 K.1 dX9_tell_57 rfl rfl ?_
      refine V_iconst (v := 1) K.1 dX9_tell_58 (by decide) ?_
      refine V_callV (d' := d - 1) (As := [.int (1 : Int32)]) K.1 dX9_tell_59 cw_X9_298 rfl rfl rfl (by omega) rfl (by simp [Value.category]) (m_X9_begins K.1.wf (by omega)) (go_V ?_)
      refine V_iload_n 2 K.1 dX9_tell_62 rfl rfl ?_
      refine V_bipush (v := 100) K.1 dX9_tell_63 (by decide) ?_
      refine V_iadd K.1 dX9_tell_65 ?_
      exact V_iret K dX9_tell_66 (k3 c5 c26_1)
    by_cases c26_2 : (σ.2.1 39 (x1).toNatClampNeg) = 2
    · refine V_lookup (off := 41) (tgt := 67) K.1 dX9_tell_26 (by decide) (by rw [c26_2]; decide) (by decide) ?_
      refine V_aload_n 0 K.1 dX9_tell_67 rfl rfl ?_
      refine V_iconst (v := 3) K.1 dX9_tell_68 (by decide) ?_
      refine V_callV (d' := d - 1) (As := [.int (3 : Int32)]) K.1 dX9_tell_69 cw_X9_298 rfl rfl rfl (by omega) rfl (by simp [Value.category]) (m_X9_begins K.1.wf (by omega)) (go_V ?_)
      refine V_aload_n 0 K.1 dX9_tell_72 rfl rfl ?_
      refine V_iconst (v := 2) K.1 dX9_tell_73 (by decide) ?_
      refine V_callV (d' := d - 1) (As := [.int (2 : Int32)]) K.1 dX9_tell_74 cw_X9_298 rfl rfl rfl (by omega) rfl (by simp [Value.category]) (m_X9_begins K.1.wf (by omega)) (go_V ?_)
      refine V_aload_n 0 K.1 dX9_tell_77 rfl rfl ?_
      refine V_iconst (v := 1) K.1 dX9_tell_78 (by decide) ?_
      refine V_callV (d' := d - 1) (As := [.int (1 : Int32)]) K.1 dX9_tell_79 cw_X9_298 rfl rfl rfl (by omega) rfl (by simp [Value.category]) (m_X9_begins K.1.wf (by omega)) (go_V ?_)
      refine V_aload_n 0 K.1 dX9_tell_82 rfl rfl ?_
      refine V_iconst (v := 1) K.1 dX9_tell_83 (by decide) ?_
      refine V_callV (d' := d - 1) (As := [.int (1 : Int32)]) K.1 dX9_tell_84 cw_X9_298 rfl rfl rfl (by omega) rfl (by simp [Value.category]) (m_X9_begins K.1.wf (by omega)) (go_V ?_)
      refine V_iconst (v := 2) K.1 dX9_tell_87 (by decide) ?_
      refine V_iload_n 2 K.1 dX9_tell_88 rfl rfl ?_
      refine V_imul K.1 dX9_tell_89 ?_
      refine V_bipush (v := 100) K.1 dX9_tell_90 (by decide) ?_
      refine V_iadd K.1 dX9_tell_92 ?_
      exact V_iret K dX9_tell_93 (k4 c5 c26_1 c26_2)
    refine V_lookup (off := 68) (tgt := 94) K.1 dX9_tell_26 (by decide) (by show Op.lookupswitch.offset [(1, 26), (2, 41)] 68 _ = _; rw [lv_osw c26_1 (by decide), lv_osw c26_2 (by decide)]; rfl) (by decide) ?_
    refine V_aload_n 0 K.1 dX9_tell_94 rfl rfl ?_
    refine V_iconst (v := 1) K.1 dX9_tell_95 (by decide) ?_
    refine V_callV (d' := d - 1) (As := [.int (1 : Int32)]) K.1 dX9_tell_96 cw_X9_298 rfl rfl rfl (by omega) rfl (by simp [Value.category]) (m_X9_begins K.1.wf (by omega)) (go_V ?_)
    refine V_iload_n 2 K.1 dX9_tell_99 rfl rfl ?_
    exact V_iret K dX9_tell_100 (k5 c5 c26_1 c26_2)
  · refine V_iconst (v := -1) K.1 dX9_tell_8 (by decide) ?_
    exact V_iret K dX9_tell_9 (k6 c5)
