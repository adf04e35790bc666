set_option maxRecDepth 20000 in
theorem R_X9_bits_0 {ω : WT} {κ : KT} {l : Launch} {d : Nat} {post : Option Value → St → Prop} {σ : St} {x0 : Int32}  (K : Cm ω κ l yX9_bits cX9_bits 3 d (some .int) post)
    (k1 : V ω κ 4 [(0, .int x0), (1, .int (0 : Int32)), (2, .int (0 : Int32))] [] σ) :
    V ω κ 0 [(0, .int x0)] [] σ := by
  refine V_iconst (v := 0) K.1 dX9_bits_0 (by decide) ?_
  refine V_istore_n (L' := [(0, .int x0), (1, .int (0 : Int32))]) K.1 dX9_bits_1 rfl (by decide) rfl ?_
  refine V_iconst (v := 0) K.1 dX9_bits_2 (by decide) ?_
  refine V_istore_n (L' := [(0, .int x0), (1, .int (0 : Int32)), (2, .int (0 : Int32))]) K.1 dX9_bits_3 rfl (by decide) rfl ?_
  exact k1
set_option maxRecDepth 20000 in
theorem R_X9_bits_4 {ω : WT} {κ : KT} {l : Launch} {d : Nat} {post : Option Value → St → Prop} {σ : St} {x0 x1 x2 : Int32}  (K : Cm ω κ l yX9_bits cX9_bits 3 d (some .int) post)
    (k1 : ((20 : Int32) ≤ x2) → post (some (.int x1)) σ)
    (k2 : ¬ ((20 : Int32) ≤ x2) → V ω κ 4 [(0, .int x0), (1, .int (x1 + ((x0 >>> (x2 &&& 31)) &&& (1 : Int32)))), (2, .int (x2 + 1))] [] σ) :
    V ω κ 4 [(0, .int x0), (1, .int x1), (2, .int x2)] [] σ := by
  refine V_iload_n 2 K.1 dX9_bits_4 rfl rfl ?_
  refine V_bipush (v := 20) K.1 dX9_bits_5 (by decide) ?_
  refine V_icmp_ge (tgt := 24) K.1 dX9_bits_7 (by decide) (fun c7 => ?_) (fun c7 => ?_)
  · refine V_iload_n 1 K.1 dX9_bits_24 rfl rfl ?_
    exact V_iret K dX9_bits_25 (k1 c7)
  · refine V_iload_n 1 K.1 dX9_bits_10 rfl rfl ?_
    refine V_iload_n 0 K.1 dX9_bits_11 rfl rfl ?_
    refine V_iload_n 2 K.1 dX9_bits_12 rfl rfl ?_
    refine V_ishr K.1 dX9_bits_13 ?_
    refine V_iconst (v := 1) K.1 dX9_bits_14 (by decide) ?_
    refine V_iand K.1 dX9_bits_15 ?_
    refine V_iadd K.1 dX9_bits_16 ?_
    refine V_istore_n (L' := [(0, .int x0), (1, .int (x1 + ((x0 >>> (x2 &&& 31)) &&& (1 : Int32)))), (2, .int x2)]) K.1 dX9_bits_17 rfl (by decide) rfl ?_
    refine V_iinc (v := (x2 + 1)) (L' := [(0, .int x0), (1, .int (x1 + ((x0 >>> (x2 &&& 31)) &&& (1 : Int32)))), (2, .int (x2 + 1))]) 2 K.1 dX9_bits_18 rfl rfl (by decide) rfl ?_
    refine V_goto (tgt := 4) K.1 dX9_bits_21 (by decide) ?_
    exact (k2 c7)
set_option maxRecDepth 20000 in
theorem R_X9_within_0 {ω : WT} {κ : KT} {l : Launch} {d : Nat} {post : Option Value → St → Prop} {σ : St} {x0 x1 x2 : Int32}  (K : Cm ω κ l yX9_within cX9_within 3 d (some .boolean) post)
    (k2 : post (some (.int (if (x0 < x1) then (0 : Int32) else (if (x2 < x0) then (0 : Int32) else (1 : Int32))))) σ) :
    V ω κ 0 [(0, .int x0), (1, .int x1), (2, .int x2)] [] σ := by
  refine V_iload_n 0 K.1 dX9_within_0 rfl rfl ?_
  refine V_iload_n 1 K.1 dX9_within_1 rfl rfl ?_
  refine V_join (J := 15) (S := []) (v := .int (if (x0 < x1) then (0 : Int32) else (if (x2 < x0) then (0 : Int32) else (1 : Int32)))) (fun hJ1 => ?_) ?_
  · refine V_icmp_lt (tgt := 14) K.1 dX9_within_2 (by decide) (fun c2 => ?_) (fun c2 => ?_)
    · refine V_iconst (v := 0) K.1 dX9_within_14 (by decide) ?_
      exact V_top (if_pos c2) hJ1
    · refine V_iload_n 0 K.1 dX9_within_5 rfl rfl ?_
      refine V_iload_n 2 K.1 dX9_within_6 rfl rfl ?_
      refine V_icmp_gt (tgt := 14) K.1 dX9_within_7 (by decide) (fun c7 => ?_) (fun c7 => ?_)
      · refine V_iconst (v := 0) K.1 dX9_within_14 (by decide) ?_
        exact V_top ((if_neg c2).trans (if_pos c7)) hJ1
      · refine V_iconst (v := 1) K.1 dX9_within_10 (by decide) ?_
        refine V_goto (tgt := 15) K.1 dX9_within_11 (by decide) ?_
        exact V_top ((if_neg c2).trans (if_neg c7)) hJ1
  exact V_zret K dX9_within_15 (by (repeat' split) <;> first | exact Or.inl rfl | exact Or.inr rfl) k2
set_option maxRecDepth 20000 in
theorem R_X9_fails_0 {ω : WT} {κ : KT} {l : Launch} {d : Nat} {post : Option Value → St → Prop} {σ : St} {x1 : Int32}  (K : Cm ω κ l yX9_fails cX9_fails 2 d (some .int) post)
    (k1 : post (some (.int ((-10 : Int32) - x1))) (pS σ 2240 x1)) :
    V ω κ 0 [(0, .ref (ω.2.2.1 35)), (1, .int x1)] [] σ := by
  refine V_aload_n 0 K.1 dX9_fails_0 rfl rfl ?_
  refine V_iload_n 1 K.1 dX9_fails_1 rfl rfl ?_
  refine V_putI (key := 2240) K.1 dX9_fails_2 rfl rfl fw_X9_81 pw_X9_0 rfl rfl rfl rfl ?_
  refine V_bipush (v := -10) K.1 dX9_fails_5 (by decide) ?_
  refine V_iload_n 1 K.1 dX9_fails_7 rfl rfl ?_
  refine V_isub K.1 dX9_fails_8 ?_
  exact V_iret K dX9_fails_9 k1
set_option maxRecDepth 20000 in
theorem R_X9_lost_0 {ω : WT} {κ : KT} {l : Launch} {d : Nat} {post : Option Value → St → Prop} {σ : St} {x1 : Int32}  (K : Cm ω κ l yX9_lost cX9_lost 2 d (some .long) post)
    (k1 : post (some (.long (-9223372036854775808 : Int64))) (pS σ 2240 x1)) :
    V ω κ 0 [(0, .ref (ω.2.2.1 35)), (1, .int x1)] [] σ := by
  refine V_aload_n 0 K.1 dX9_lost_0 rfl rfl ?_
  refine V_iload_n 1 K.1 dX9_lost_1 rfl rfl ?_
  refine V_putI (key := 2240) K.1 dX9_lost_2 rfl rfl fw_X9_81 pw_X9_0 rfl rfl rfl rfl ?_
  refine V_ldc2_w K.1 dX9_lost_5 cn_X9_85 ?_
  exact V_lret K dX9_lost_8 k1
set_option maxRecDepth 20000 in
theorem R_X6_hasRow_0 {ω : WT} {κ : KT} {l : Launch} {d : Nat} {post : Option Value → St → Prop} {σ : St} {j : Nat} (hj : j < 4) (K : Cm ω κ l yX6_hasRow cX6_hasRow 1 d (some .boolean) post)
    (k2 : post (some (.int (if ((σ.1 (64 * (2 + j) + 1)) = (-1 : Int32)) then (0 : Int32) else (1 : Int32)))) σ) :
    V ω κ 0 [(0, .ref (ω.2.2.1 (2 + j)))] [] σ := by
  refine V_aload_n 0 K.1 dX6_hasRow_0 rfl rfl ?_
  refine V_get (v := .int (σ.1 (64 * (2 + j) + 1))) K.1 dX6_hasRow_1 (shO j hj) rfl fw_X6_15 rfl rfl ?_
  refine V_iconst (v := -1) K.1 dX6_hasRow_4 (by decide) ?_
  refine V_join (J := 13) (S := []) (v := .int (if ((σ.1 (64 * (2 + j) + 1)) = (-1 : Int32)) then (0 : Int32) else (1 : Int32))) (fun hJ1 => ?_) ?_
  · refine V_icmp_eq (tgt := 12) K.1 dX6_hasRow_5 (by decide) (fun c5 => ?_) (fun c5 => ?_)
    · refine V_iconst (v := 0) K.1 dX6_hasRow_12 (by decide) ?_
      exact V_top (if_pos c5) hJ1
    · refine V_iconst (v := 1) K.1 dX6_hasRow_8 (by decide) ?_
      refine V_goto (tgt := 13) K.1 dX6_hasRow_9 (by decide) ?_
      exact V_top (if_neg c5) hJ1
  exact V_zret K dX6_hasRow_13 (by (repeat' split) <;> first | exact Or.inl rfl | exact Or.inr rfl) k2
set_option maxRecDepth 20000 in
theorem R_X6_at_0 {ω : WT} {κ : KT} {l : Launch} {d : Nat} {post : Option Value → St → Prop} {σ : St} {x1 : Int32} {j : Nat} (hj : j < 4) (K : Cm ω κ l yX6_at cX6_at 2 d (some .int) post)
    (b2 : ¬ (x1 < 0) → ¬ ((σ.1 (64 * (2 + j) + 1)) ≤ x1) → vp_in x1 80)
    (k3 : post (some (.int (if (x1 < 0) then (0 : Int32) else (if ((σ.1 (64 * (2 + j) + 1)) ≤ x1) then (0 : Int32) else (σ.2.1 (6 + j) (x1).toNatClampNeg))))) σ) :
    V ω κ 0 [(0, .ref (ω.2.2.1 (2 + j))), (1, .int x1)] [] σ := by
  refine V_iload_n 1 K.1 dX6_at_0 rfl rfl ?_
  refine V_join (J := 22) (S := []) (v := .int (if (x1 < 0) then (0 : Int32) else (if ((σ.1 (64 * (2 + j) + 1)) ≤ x1) then (0 : Int32) else (σ.2.1 (6 + j) (x1).toNatClampNeg)))) (fun hJ1 => ?_) ?_
  · refine V_if_lt (tgt := 21) K.1 dX6_at_1 (by decide) (fun c1 => ?_) (fun c1 => ?_)
    · refine V_iconst (v := 0) K.1 dX6_at_21 (by decide) ?_
      exact V_top (if_pos c1) hJ1
    · refine V_iload_n 1 K.1 dX6_at_4 rfl rfl ?_
      refine V_aload_n 0 K.1 dX6_at_5 rfl rfl ?_
      refine V_get (v := .int (σ.1 (64 * (2 + j) + 1))) K.1 dX6_at_6 (shO j hj) rfl fw_X6_15 rfl rfl ?_
      refine V_icmp_ge (tgt := 21) K.1 dX6_at_9 (by decide) (fun c9 => ?_) (fun c9 => ?_)
      · refine V_iconst (v := 0) K.1 dX6_at_21 (by decide) ?_
        exact V_top ((if_neg c1).trans (if_pos c9)) hJ1
      · refine V_aload_n 0 K.1 dX6_at_12 rfl rfl ?_
        refine V_get (v := .ref (ω.2.2.1 (6 + j))) K.1 dX6_at_13 (shO j hj) rfl fw_X6_9 rfl rfl ?_
        refine V_iload_n 1 K.1 dX6_at_16 rfl rfl ?_
        refine V_iaload (v := (σ.2.1 (6 + j) (x1).toNatClampNeg)) K.1 dX6_at_17 (shA j hj) (b2 c1 c9) rfl ?_
        refine V_goto (tgt := 22) K.1 dX6_at_18 (by decide) ?_
        exact V_top ((if_neg c1).trans (if_neg c9)) hJ1
  exact V_iret K dX6_at_22 k3
set_option maxRecDepth 20000 in
theorem R_X6_store_0 {ω : WT} {κ : KT} {l : Launch} {d : Nat} {post : Option Value → St → Prop} {σ : St} {x1 x2 : Int32} {j : Nat} (hj : j < 4) (K : Cm ω κ l yX6_store cX6_store 3 d none post)
    (k1 : (x1 < 0) → post none σ)
    (k2 : ¬ (x1 < 0) → ((σ.1 (64 * (2 + j) + 1)) ≤ x1) → post none σ)
    (b4 : ¬ (x1 < 0) → ¬ ((σ.1 (64 * (2 + j) + 1)) ≤ x1) → vp_in x1 80)
    (k5 : ¬ (x1 < 0) → ¬ ((σ.1 (64 * (2 + j) + 1)) ≤ x1) → post none (pA σ (6 + j) (x1).toNatClampNeg (if ((σ.1 (64 * (2 + j) + 2)) = 0) then (x2).toInt8.toInt32 else (if ((σ.1 (64 * (2 + j) + 2)) = (1 : Int32)) then (x2).toInt16.toInt32 else x2)))) :
    V ω κ 0 [(0, .ref (ω.2.2.1 (2 + j))), (1, .int x1), (2, .int x2)] [] σ := by
  refine V_iload_n 1 K.1 dX6_store_0 rfl rfl ?_
  refine V_if_lt (tgt := 44) K.1 dX6_store_1 (by decide) (fun c1 => ?_) (fun c1 => ?_)
  · exact V_vret K dX6_store_44 (k1 c1)
  · refine V_iload_n 1 K.1 dX6_store_4 rfl rfl ?_
    refine V_aload_n 0 K.1 dX6_store_5 rfl rfl ?_
    refine V_get (v := .int (σ.1 (64 * (2 + j) + 1))) K.1 dX6_store_6 (shO j hj) rfl fw_X6_15 rfl rfl ?_
    refine V_icmp_ge (tgt := 44) K.1 dX6_store_9 (by decide) (fun c9 => ?_) (fun c9 => ?_)
    · exact V_vret K dX6_store_44 (k2 c1 c9)
    · refine V_aload_n 0 K.1 dX6_store_12 rfl rfl ?_
      refine V_get (v := .ref (ω.2.2.1 (6 + j))) K.1 dX6_store_13 (shO j hj) rfl fw_X6_9 rfl rfl ?_
      refine V_iload_n 1 K.1 dX6_store_16 rfl rfl ?_
      refine V_aload_n 0 K.1 dX6_store_17 rfl rfl ?_
      refine V_get (v := .int (σ.1 (64 * (2 + j) + 2))) K.1 dX6_store_18 (shO j hj) rfl fw_X6_25 rfl rfl ?_
      refine V_join (J := 43) (S := [.int x1, .ref (ω.2.2.1 (6 + j))]) (v := .int (if ((σ.1 (64 * (2 + j) + 2)) = 0) then (x2).toInt8.toInt32 else (if ((σ.1 (64 * (2 + j) + 2)) = (1 : Int32)) then (x2).toInt16.toInt32 else x2))) (fun hJ3 => ?_) ?_
      · refine V_if_ne (tgt := 29) K.1 dX6_store_21 (by decide) (fun c21 => ?_) (fun c21 => ?_)
        · refine V_aload_n 0 K.1 dX6_store_29 rfl rfl ?_
          refine V_get (v := .int (σ.1 (64 * (2 + j) + 2))) K.1 dX6_store_30 (shO j hj) rfl fw_X6_25 rfl rfl ?_
          refine V_iconst (v := 1) K.1 dX6_store_33 (by decide) ?_
          refine V_icmp_ne (tgt := 42) K.1 dX6_store_34 (by decide) (fun c34 => ?_) (fun c34 => ?_)
          · refine V_iload_n 2 K.1 dX6_store_42 rfl rfl ?_
            exact V_top ((if_neg c21).trans (if_neg c34)) hJ3
          · refine V_iload_n 2 K.1 dX6_store_37 rfl rfl ?_
            refine V_i2s K.1 dX6_store_38 ?_
            refine V_goto (tgt := 43) K.1 dX6_store_39 (by decide) ?_
            exact V_top ((if_neg c21).trans (if_pos c34)) hJ3
        · refine V_iload_n 2 K.1 dX6_store_24 rfl rfl ?_
          refine V_i2b K.1 dX6_store_25 ?_
          refine V_goto (tgt := 43) K.1 dX6_store_26 (by decide) ?_
          exact V_top (if_pos c21) hJ3
      refine V_iastore K.1 dX6_store_43 (shA j hj) (b4 c1 c9) ?_
      exact V_vret K dX6_store_44 (k5 c1 c9)
set_option maxRecDepth 20000 in
theorem R_X7_placeOf_0 {ω : WT} {κ : KT} {l : Launch} {d : Nat} {post : Option Value → St → Prop} {σ : St} {x1 : Int32}  (K : Cm ω κ l yX7_placeOf cX7_placeOf 3 d (some .int) post)
    (k1 : V ω κ 2 [(0, .ref (ω.2.2.1 10)), (1, .int x1), (2, .int (0 : Int32))] [] σ) :
    V ω κ 0 [(0, .ref (ω.2.2.1 10)), (1, .int x1)] [] σ := by
  refine V_iconst (v := 0) K.1 dX7_placeOf_0 (by decide) ?_
  refine V_istore_n (L' := [(0, .ref (ω.2.2.1 10)), (1, .int x1), (2, .int (0 : Int32))]) K.1 dX7_placeOf_1 rfl (by decide) rfl ?_
  exact k1
set_option maxRecDepth 20000 in
theorem R_X7_placeOf_2 {ω : WT} {κ : KT} {l : Launch} {d : Nat} {post : Option Value → St → Prop} {σ : St} {x1 x2 : Int32}  (K : Cm ω κ l yX7_placeOf cX7_placeOf 3 d (some .int) post)
    (k1 : ((σ.1 644) ≤ x2) → post (some (.int (-1 : Int32))) σ)
    (b2 : ¬ ((σ.1 644) ≤ x2) → vp_in x2 6)
    (k3 : ¬ ((σ.1 644) ≤ x2) → ¬ ((σ.2.1 13 (x2).toNatClampNeg) = x1) → V ω κ 2 [(0, .ref (ω.2.2.1 10)), (1, .int x1), (2, .int (x2 + 1))] [] σ)
    (k4 : ¬ ((σ.1 644) ≤ x2) → ((σ.2.1 13 (x2).toNatClampNeg) = x1) → post (some (.int x2)) σ) :
    V ω κ 2 [(0, .ref (ω.2.2.1 10)), (1, .int x1), (2, .int x2)] [] σ := by
  refine V_iload_n 2 K.1 dX7_placeOf_2 rfl rfl ?_
  refine V_aload_n 0 K.1 dX7_placeOf_3 rfl rfl ?_
  refine V_get (v := .int (σ.1 644)) K.1 dX7_placeOf_4 rfl rfl fw_X7_28 rfl rfl ?_
  refine V_icmp_ge (tgt := 28) K.1 dX7_placeOf_7 (by decide) (fun c7 => ?_) (fun c7 => ?_)
  · refine V_iconst (v := -1) K.1 dX7_placeOf_28 (by decide) ?_
    exact V_iret K dX7_placeOf_29 (k1 c7)
  · refine V_aload_n 0 K.1 dX7_placeOf_10 rfl rfl ?_
    refine V_get (v := .ref (ω.2.2.1 13)) K.1 dX7_placeOf_11 rfl rfl fw_X7_18 rfl rfl ?_
    refine V_iload_n 2 K.1 dX7_placeOf_14 rfl rfl ?_
    refine V_iaload (v := (σ.2.1 13 (x2).toNatClampNeg)) K.1 dX7_placeOf_15 rfl (b2 c7) rfl ?_
    refine V_iload_n 1 K.1 dX7_placeOf_16 rfl rfl ?_
    refine V_icmp_ne (tgt := 22) K.1 dX7_placeOf_17 (by decide) (fun c17 => ?_) (fun c17 => ?_)
    · refine V_iinc (v := (x2 + 1)) (L' := [(0, .ref (ω.2.2.1 10)), (1, .int x1), (2, .int (x2 + 1))]) 2 K.1 dX7_placeOf_22 rfl rfl (by decide) rfl ?_
      refine V_goto (tgt := 2) K.1 dX7_placeOf_25 (by decide) ?_
      exact (k3 c7 c17)
    · refine V_iload_n 2 K.1 dX7_placeOf_20 rfl rfl ?_
      exact V_iret K dX7_placeOf_21 (k4 c7 c17)
set_option maxRecDepth 20000 in
theorem R_X2_sayings_0 {ω : WT} {κ : KT} {l : Launch} {d : Nat} {post : Option Value → St → Prop} {σ : St} {x1 x2 x3 : Int32}  (K : Cm ω κ l yX2_sayings cX2_sayings 10 d (some .int) post)
    (k1 : V ω κ 22 [(0, .ref (ω.2.2.1 14)), (1, .int x1), (2, .int x2), (4, .int ((σ.1 646) &&& (x3 ^^^ (-1 : Int32)))), (5, .int (0 : Int32)), (6, .int (0 : Int32)), (7, .int (0 : Int32))] [] σ) :
    V ω κ 0 [(0, .ref (ω.2.2.1 14)), (1, .int x1), (2, .int x2), (3, .int x3)] [] σ := by
  refine V_aload_n 0 K.1 dX2_sayings_0 rfl rfl ?_
  refine V_get (v := .ref (ω.2.2.1 10)) K.1 dX2_sayings_1 rfl rfl fw_X2_9 rfl rfl ?_
  refine V_get (v := .int (σ.1 646)) K.1 dX2_sayings_4 rfl rfl fw_X2_74 rfl rfl ?_
  refine V_iload_n 3 K.1 dX2_sayings_7 rfl rfl ?_
  refine V_iconst (v := -1) K.1 dX2_sayings_8 (by decide) ?_
  refine V_ixor K.1 dX2_sayings_9 ?_
  refine V_iand K.1 dX2_sayings_10 ?_
  refine V_istore (L' := [(0, .ref (ω.2.2.1 14)), (1, .int x1), (2, .int x2), (3, .int x3), (4, .int ((σ.1 646) &&& (x3 ^^^ (-1 : Int32))))]) K.1 dX2_sayings_11 (by decide) rfl ?_
  refine V_iconst (v := 0) K.1 dX2_sayings_13 (by decide) ?_
  refine V_istore (L' := [(0, .ref (ω.2.2.1 14)), (1, .int x1), (2, .int x2), (3, .int x3), (4, .int ((σ.1 646) &&& (x3 ^^^ (-1 : Int32)))), (5, .int (0 : Int32))]) K.1 dX2_sayings_14 (by decide) rfl ?_
  refine V_iconst (v := 0) K.1 dX2_sayings_16 (by decide) ?_
  refine V_istore (L' := [(0, .ref (ω.2.2.1 14)), (1, .int x1), (2, .int x2), (3, .int x3), (4, .int ((σ.1 646) &&& (x3 ^^^ (-1 : Int32)))), (5, .int (0 : Int32)), (6, .int (0 : Int32))]) K.1 dX2_sayings_17 (by decide) rfl ?_
  refine V_iconst (v := 0) K.1 dX2_sayings_19 (by decide) ?_
  refine V_istore (L' := [(0, .ref (ω.2.2.1 14)), (1, .int x1), (2, .int x2), (3, .int x3), (4, .int ((σ.1 646) &&& (x3 ^^^ (-1 : Int32)))), (5, .int (0 : Int32)), (6, .int (0 : Int32)), (7, .int (0 : Int32))]) K.1 dX2_sayings_20 (by decide) rfl ?_
  exact V_sub [0, 1, 2, 4, 5, 6, 7] rfl k1
set_option maxRecDepth 20000 in
theorem R_X2_sayings_22 {ω : WT} {κ : KT} {l : Launch} {d : Nat} {post : Option Value → St → Prop} {σ : St} {x1 x2 x4 x5 x6 x7 : Int32}  (K : Cm ω κ l yX2_sayings cX2_sayings 10 d (some .int) post)
    (k1 : ((σ.1 640) ≤ x7) → post (some (.int x5)) σ)
    (k2 : ¬ ((σ.1 640) ≤ x7) → ((x1 &&& ((1 : Int32) <<< (x7 &&& 31))) = 0) → V ω κ 22 [(0, .ref (ω.2.2.1 14)), (1, .int x1), (2, .int x2), (4, .int x4), (5, .int x5), (6, .int x6), (7, .int (x7 + 1))] [] σ)
    (k4 : ¬ ((σ.1 640) ≤ x7) → ¬ ((x1 &&& ((1 : Int32) <<< (x7 &&& 31))) = 0) → (x6 = 0) → V ω κ 112 [(0, .ref (ω.2.2.1 14)), (1, .int x1), (2, .int x2), (4, .int x4), (5, .int x5), (6, .int x6), (7, .int x7), (8, .int ((1 : Int32) <<< (x7 &&& 31))), (9, .int (if ((x2 &&& ((1 : Int32) <<< (x7 &&& 31))) = 0) then (0 : Int32) else (1 : Int32)))] [] σ)
    (k5 : ¬ ((σ.1 640) ≤ x7) → ¬ ((x1 &&& ((1 : Int32) <<< (x7 &&& 31))) = 0) → ¬ (x6 = 0) → ((x4 &&& ((1 : Int32) <<< (x7 &&& 31))) = 0) → V ω κ 112 [(0, .ref (ω.2.2.1 14)), (1, .int x1), (2, .int x2), (4, .int x4), (5, .int x5), (6, .int x6), (7, .int x7), (8, .int ((1 : Int32) <<< (x7 &&& 31))), (9, .int (if ((x2 &&& ((1 : Int32) <<< (x7 &&& 31))) = 0) then (0 : Int32) else (1 : Int32)))] [] σ)
    (k9 : ¬ ((σ.1 640) ≤ x7) → ¬ ((x1 &&& ((1 : Int32) <<< (x7 &&& 31))) = 0) → ¬ (x6 = 0) → ¬ ((x4 &&& ((1 : Int32) <<< (x7 &&& 31))) = 0) → V ω κ 112 [(0, .ref (ω.2.2.1 14)), (1, .int x1), (2, .int x2), (4, .int x4), (5, .int x5), (6, .int x6), (7, .int x7), (8, .int ((1 : Int32) <<< (x7 &&& 31))), (9, .int (if ((if (x6 ≤ 0) then (0 : Int32) else (1 : Int32)) = (if (((σ.1 645) &&& ((1 : Int32) <<< (x7 &&& 31))) = 0) then (0 : Int32) else (1 : Int32))) then (0 : Int32) else (1 : Int32)))] [] σ) :
    V ω κ 22 [(0, .ref (ω.2.2.1 14)), (1, .int x1), (2, .int x2), (4, .int x4), (5, .int x5), (6, .int x6), (7, .int x7)] [] σ := by
  refine V_iload 6 K.1 dX2_sayings_22 rfl ?_
  refine V_aload_n 0 K.1 dX2_sayings_24 rfl rfl ?_
  refine V_get (v := .ref (ω.2.2.1 10)) K.1 dX2_sayings_25 rfl rfl fw_X2_9 rfl rfl ?_
  refine V_get (v := .int (σ.1 640)) K.1 dX2_sayings_28 rfl rfl fw_X2_30 rfl rfl ?_
  refine V_icmp_ge (tgt := 149) K.1 dX2_sayings_31 (by decide) (fun c31 => ?_) (fun c31 => ?_)
  · refine V_iload 4 K.1 dX2_sayings_149 rfl ?_
    exact V_iret K dX2_sayings_151 (k1 c31)
  · refine V_iconst (v := 1) K.1 dX2_sayings_34 (by decide) ?_
    refine V_iload 6 K.1 dX2_sayings_35 rfl ?_
    refine V_ishl K.1 dX2_sayings_37 ?_
    refine V_istore (L' := [(0, .ref (ω.2.2.1 14)), (1, .int x1), (2, .int x2), (4, .int x4), (5, .int x5), (6, .int x6), (7, .int x7), (8, .int ((1 : Int32) <<< (x7 &&& 31)))]) K.1 dX2_sayings_38 (by decide) rfl ?_
    refine V_iload_n 1 K.1 dX2_sayings_40 rfl rfl ?_
    refine V_iload 7 K.1 dX2_sayings_41 rfl ?_
    refine V_iand K.1 dX2_sayings_43 ?_
    refine V_if_eq (tgt := 143) K.1 dX2_sayings_44 (by decide) (fun c44 => ?_) (fun c44 => ?_)
    · refine V_iinc (v := (x7 + 1)) (L' := [(0, .ref (ω.2.2.1 14)), (1, .int x1), (2, .int x2), (4, .int x4), (5, .int x5), (6, .int x6), (7, .int (x7 + 1)), (8, .int ((1 : Int32) <<< (x7 &&& 31)))]) 6 K.1 dX2_sayings_143 rfl rfl (by decide) rfl ?_
      refine V_goto (tgt := 22) K.1 dX2_sayings_146 (by decide) ?_
      exact V_sub [0, 1, 2, 3, 4, 5, 6] rfl (k2 c31 c44)
    · refine V_iload_n 2 K.1 dX2_sayings_47 rfl rfl ?_
      refine V_iload 7 K.1 dX2_sayings_48 rfl ?_
      refine V_iand K.1 dX2_sayings_50 ?_
      refine V_join (J := 59) (S := []) (v := .int (if ((x2 &&& ((1 : Int32) <<< (x7 &&& 31))) = 0) then (0 : Int32) else (1 : Int32))) (fun hJ3 => ?_) ?_
      · refine V_if_eq (tgt := 58) K.1 dX2_sayings_51 (by decide) (fun c51 => ?_) (fun c51 => ?_)
        · refine V_iconst (v := 0) K.1 dX2_sayings_58 (by decide) ?_
          exact V_top (if_pos c51) hJ3
        · refine V_iconst (v := 1) K.1 dX2_sayings_54 (by decide) ?_
          refine V_goto (tgt := 59) K.1 dX2_sayings_55 (by decide) ?_
          exact V_top (if_neg c51) hJ3
      refine V_istore (L' := [(0, .ref (ω.2.2.1 14)), (1, .int x1), (2, .int x2), (4, .int x4), (5, .int x5), (6, .int x6), (7, .int x7), (8, .int ((1 : Int32) <<< (x7 &&& 31))), (9, .int (if ((x2 &&& ((1 : Int32) <<< (x7 &&& 31))) = 0) then (0 : Int32) else (1 : Int32)))]) K.1 dX2_sayings_59 (by decide) rfl ?_
      refine V_iload 5 K.1 dX2_sayings_61 rfl ?_
      refine V_if_eq (tgt := 112) K.1 dX2_sayings_63 (by decide) (fun c63 => ?_) (fun c63 => ?_)
      · exact (k4 c31 c44 c63)
      · refine V_iload 3 K.1 dX2_sayings_66 rfl ?_
        refine V_iload 7 K.1 dX2_sayings_68 rfl ?_
        refine V_iand K.1 dX2_sayings_70 ?_
        refine V_if_eq (tgt := 112) K.1 dX2_sayings_71 (by decide) (fun c71 => ?_) (fun c71 => ?_)
        · exact (k5 c31 c44 c63 c71)
        · refine V_iload 5 K.1 dX2_sayings_74 rfl ?_
          refine V_join (J := 84) (S := []) (v := .int (if (x6 ≤ 0) then (0 : Int32) else (1 : Int32))) (fun hJ6 => ?_) ?_
          · refine V_if_le (tgt := 83) K.1 dX2_sayings_76 (by decide) (fun c76 => ?_) (fun c76 => ?_)
            · refine V_iconst (v := 0) K.1 dX2_sayings_83 (by decide) ?_
              exact V_top (if_pos c76) hJ6
            · refine V_iconst (v := 1) K.1 dX2_sayings_79 (by decide) ?_
              refine V_goto (tgt := 84) K.1 dX2_sayings_80 (by decide) ?_
              exact V_top (if_neg c76) hJ6
          refine V_aload_n 0 K.1 dX2_sayings_84 rfl rfl ?_
          refine V_get (v := .ref (ω.2.2.1 10)) K.1 dX2_sayings_85 rfl rfl fw_X2_9 rfl rfl ?_
          refine V_get (v := .int (σ.1 645)) K.1 dX2_sayings_88 rfl rfl fw_X2_77 rfl rfl ?_
          refine V_iload 7 K.1 dX2_sayings_91 rfl ?_
          refine V_iand K.1 dX2_sayings_93 ?_
          refine V_join (J := 102) (S := [.int (if (x6 ≤ 0) then (0 : Int32) else (1 : Int32))]) (v := .int (if (((σ.1 645) &&& ((1 : Int32) <<< (x7 &&& 31))) = 0) then (0 : Int32) else (1 : Int32))) (fun hJ7 => ?_) ?_
          · refine V_if_eq (tgt := 101) K.1 dX2_sayings_94 (by decide) (fun c94 => ?_) (fun c94 => ?_)
            · refine V_iconst (v := 0) K.1 dX2_sayings_101 (by decide) ?_
              exact V_top (if_pos c94) hJ7
            · refine V_iconst (v := 1) K.1 dX2_sayings_97 (by decide) ?_
              refine V_goto (tgt := 102) K.1 dX2_sayings_98 (by decide) ?_
              exact V_top (if_neg c94) hJ7
          refine V_join (J := 110) (S := []) (v := .int (if ((if (x6 ≤ 0) then (0 : Int32) else (1 : Int32)) = (if (((σ.1 645) &&& ((1 : Int32) <<< (x7 &&& 31))) = 0) then (0 : Int32) else (1 : Int32))) then (0 : Int32) else (1 : Int32))) (fun hJ8 => ?_) ?_
          · refine V_icmp_eq (tgt := 109) K.1 dX2_sayings_102 (by decide) (fun c102 => ?_) (fun c102 => ?_)
            · refine V_iconst (v := 0) K.1 dX2_sayings_109 (by decide) ?_
              exact V_top (if_pos c102) hJ8
            · refine V_iconst (v := 1) K.1 dX2_sayings_105 (by decide) ?_
              refine V_goto (tgt := 110) K.1 dX2_sayings_106 (by decide) ?_
              exact V_top (if_neg c102) hJ8
          refine V_istore (L' := [(0, .ref (ω.2.2.1 14)), (1, .int x1), (2, .int x2), (4, .int x4), (5, .int x5), (6, .int x6), (7, .int x7), (8, .int ((1 : Int32) <<< (x7 &&& 31))), (9, .int (if ((if (x6 ≤ 0) then (0 : Int32) else (1 : Int32)) = (if (((σ.1 645) &&& ((1 : Int32) <<< (x7 &&& 31))) = 0) then (0 : Int32) else (1 : Int32))) then (0 : Int32) else (1 : Int32)))]) K.1 dX2_sayings_110 (by decide) rfl ?_
          exact (k9 c31 c44 c63 c71)
set_option maxRecDepth 20000 in
theorem R_X2_sayings_112 {ω : WT} {κ : KT} {l : Launch} {d : Nat} {post : Option Value → St → Prop} {σ : St} {x1 x2 x4 x5 x6 x7 x8 x9 : Int32}  (K : Cm ω κ l yX2_sayings cX2_sayings 10 d (some .int) post)
    (k3 : V ω κ 22 [(0, .ref (ω.2.2.1 14)), (1, .int x1), (2, .int x2), (4, .int x4), (5, .int (x5 ||| (if (x9 = 0) then (0 : Int32) else x8))), (6, .int (x6 + (if (x9 = 0) then (-1 : Int32) else (1 : Int32)))), (7, .int (x7 + 1))] [] σ) :
    V ω κ 112 [(0, .ref (ω.2.2.1 14)), (1, .int x1), (2, .int x2), (4, .int x4), (5, .int x5), (6, .int x6), (7, .int x7), (8, .int x8), (9, .int x9)] [] σ := by
  refine V_iload 4 K.1 dX2_sayings_112 rfl ?_
  refine V_iload 8 K.1 dX2_sayings_114 rfl ?_
  refine V_join (J := 125) (S := [.int x5]) (v := .int (if (x9 = 0) then (0 : Int32) else x8)) (fun hJ1 => ?_) ?_
  · refine V_if_eq (tgt := 124) K.1 dX2_sayings_116 (by decide) (fun c116 => ?_) (fun c116 => ?_)
    · refine V_iconst (v := 0) K.1 dX2_sayings_124 (by decide) ?_
      exact V_top (if_pos c116) hJ1
    · refine V_iload 7 K.1 dX2_sayings_119 rfl ?_
      refine V_goto (tgt := 125) K.1 dX2_sayings_121 (by decide) ?_
      exact V_top (if_neg c116) hJ1
  refine V_ior K.1 dX2_sayings_125 ?_
  refine V_istore (L' := [(0, .ref (ω.2.2.1 14)), (1, .int x1), (2, .int x2), (4, .int x4), (5, .int (x5 ||| (if (x9 = 0) then (0 : Int32) else x8))), (6, .int x6), (7, .int x7), (8, .int x8), (9, .int x9)]) K.1 dX2_sayings_126 (by decide) rfl ?_
  refine V_iload 5 K.1 dX2_sayings_128 rfl ?_
  refine V_iload 8 K.1 dX2_sayings_130 rfl ?_
  refine V_join (J := 140) (S := [.int x6]) (v := .int (if (x9 = 0) then (-1 : Int32) else (1 : Int32))) (fun hJ2 => ?_) ?_
  · refine V_if_eq (tgt := 139) K.1 dX2_sayings_132 (by decide) (fun c132 => ?_) (fun c132 => ?_)
    · refine V_iconst (v := -1) K.1 dX2_sayings_139 (by decide) ?_
      exact V_top (if_pos c132) hJ2
    · refine V_iconst (v := 1) K.1 dX2_sayings_135 (by decide) ?_
      refine V_goto (tgt := 140) K.1 dX2_sayings_136 (by decide) ?_
      exact V_top (if_neg c132) hJ2
  refine V_iadd K.1 dX2_sayings_140 ?_
  refine V_istore (L' := [(0, .ref (ω.2.2.1 14)), (1, .int x1), (2, .int x2), (4, .int x4), (5, .int (x5 ||| (if (x9 = 0) then (0 : Int32) else x8))), (6, .int (x6 + (if (x9 = 0) then (-1 : Int32) else (1 : Int32)))), (7, .int x7), (8, .int x8), (9, .int x9)]) K.1 dX2_sayings_141 (by decide) rfl ?_
  refine V_iinc (v := (x7 + 1)) (L' := [(0, .ref (ω.2.2.1 14)), (1, .int x1), (2, .int x2), (4, .int x4), (5, .int (x5 ||| (if (x9 = 0) then (0 : Int32) else x8))), (6, .int (x6 + (if (x9 = 0) then (-1 : Int32) else (1 : Int32)))), (7, .int (x7 + 1)), (8, .int x8), (9, .int x9)]) 6 K.1 dX2_sayings_143 rfl rfl (by decide) rfl ?_
  refine V_goto (tgt := 22) K.1 dX2_sayings_146 (by decide) ?_
  exact V_sub [0, 1, 2, 3, 4, 5, 6] rfl k3
