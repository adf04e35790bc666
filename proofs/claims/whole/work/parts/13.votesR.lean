set_option maxRecDepth 20000 in
theorem R_J6_bitCount_0f7a4_0 {ω : WT} {κ : KT} {l : Launch} {d : Nat} {post : Option Value → St → Prop} {σ : St} {x0 : Int32}  (K : Cm ω κ l yJ6_bitCount_0f7a4 cJ6_bitCount_0f7a4 1 d (some .int) post)
    (k1 : V ω κ 10 [(0, .int (x0 - (((x0).toUInt32 >>> (((1 : Int32)).toUInt32 &&& Int32.toUInt32 31)).toInt32 &&& (1431655765 : Int32))))] [] σ) :
    V ω κ 0 [(0, .int x0)] [] σ := by
  refine V_iload_n 0 K.1 dJ6_bitCount_0f7a4_0 rfl rfl ?_
  refine V_iload_n 0 K.1 dJ6_bitCount_0f7a4_1 rfl rfl ?_
  refine V_iconst (v := 1) K.1 dJ6_bitCount_0f7a4_2 (by decide) ?_
  refine V_iushr K.1 dJ6_bitCount_0f7a4_3 ?_
  refine V_ldc_w K.1 dJ6_bitCount_0f7a4_4 cn_J6_265 ?_
  refine V_iand K.1 dJ6_bitCount_0f7a4_7 ?_
  refine V_isub K.1 dJ6_bitCount_0f7a4_8 ?_
  refine V_istore_n (L' := [(0, .int (x0 - (((x0).toUInt32 >>> (((1 : Int32)).toUInt32 &&& Int32.toUInt32 31)).toInt32 &&& (1431655765 : Int32))))]) K.1 dJ6_bitCount_0f7a4_9 rfl (by decide) rfl ?_
  exact k1
set_option maxRecDepth 20000 in
theorem R_J6_bitCount_0f7a4_10 {ω : WT} {κ : KT} {l : Launch} {d : Nat} {post : Option Value → St → Prop} {σ : St} {x0 : Int32}  (K : Cm ω κ l yJ6_bitCount_0f7a4 cJ6_bitCount_0f7a4 1 d (some .int) post)
    (k1 : V ω κ 24 [(0, .int ((x0 &&& (858993459 : Int32)) + (((x0).toUInt32 >>> (((2 : Int32)).toUInt32 &&& Int32.toUInt32 31)).toInt32 &&& (858993459 : Int32))))] [] σ) :
    V ω κ 10 [(0, .int x0)] [] σ := by
  refine V_iload_n 0 K.1 dJ6_bitCount_0f7a4_10 rfl rfl ?_
  refine V_ldc_w K.1 dJ6_bitCount_0f7a4_11 cn_J6_266 ?_
  refine V_iand K.1 dJ6_bitCount_0f7a4_14 ?_
  refine V_iload_n 0 K.1 dJ6_bitCount_0f7a4_15 rfl rfl ?_
  refine V_iconst (v := 2) K.1 dJ6_bitCount_0f7a4_16 (by decide) ?_
  refine V_iushr K.1 dJ6_bitCount_0f7a4_17 ?_
  refine V_ldc_w K.1 dJ6_bitCount_0f7a4_18 cn_J6_266 ?_
  refine V_iand K.1 dJ6_bitCount_0f7a4_21 ?_
  refine V_iadd K.1 dJ6_bitCount_0f7a4_22 ?_
  refine V_istore_n (L' := [(0, .int ((x0 &&& (858993459 : Int32)) + (((x0).toUInt32 >>> (((2 : Int32)).toUInt32 &&& Int32.toUInt32 31)).toInt32 &&& (858993459 : Int32))))]) K.1 dJ6_bitCount_0f7a4_23 rfl (by decide) rfl ?_
  exact k1
set_option maxRecDepth 20000 in
theorem R_J6_bitCount_0f7a4_24 {ω : WT} {κ : KT} {l : Launch} {d : Nat} {post : Option Value → St → Prop} {σ : St} {x0 : Int32}  (K : Cm ω κ l yJ6_bitCount_0f7a4 cJ6_bitCount_0f7a4 1 d (some .int) post)
    (k1 : V ω κ 34 [(0, .int ((x0 + ((x0).toUInt32 >>> (((4 : Int32)).toUInt32 &&& Int32.toUInt32 31)).toInt32) &&& (252645135 : Int32)))] [] σ) :
    V ω κ 24 [(0, .int x0)] [] σ := by
  refine V_iload_n 0 K.1 dJ6_bitCount_0f7a4_24 rfl rfl ?_
  refine V_iload_n 0 K.1 dJ6_bitCount_0f7a4_25 rfl rfl ?_
  refine V_iconst (v := 4) K.1 dJ6_bitCount_0f7a4_26 (by decide) ?_
  refine V_iushr K.1 dJ6_bitCount_0f7a4_27 ?_
  refine V_iadd K.1 dJ6_bitCount_0f7a4_28 ?_
  refine V_ldc_w K.1 dJ6_bitCount_0f7a4_29 cn_J6_267 ?_
  refine V_iand K.1 dJ6_bitCount_0f7a4_32 ?_
  refine V_istore_n (L' := [(0, .int ((x0 + ((x0).toUInt32 >>> (((4 : Int32)).toUInt32 &&& Int32.toUInt32 31)).toInt32) &&& (252645135 : Int32)))]) K.1 dJ6_bitCount_0f7a4_33 rfl (by decide) rfl ?_
  exact k1
set_option maxRecDepth 20000 in
theorem R_J6_bitCount_0f7a4_34 {ω : WT} {κ : KT} {l : Launch} {d : Nat} {post : Option Value → St → Prop} {σ : St} {x0 : Int32}  (K : Cm ω κ l yJ6_bitCount_0f7a4 cJ6_bitCount_0f7a4 1 d (some .int) post)
    (k1 : V ω κ 41 [(0, .int (x0 + ((x0).toUInt32 >>> (((8 : Int32)).toUInt32 &&& Int32.toUInt32 31)).toInt32))] [] σ) :
    V ω κ 34 [(0, .int x0)] [] σ := by
  refine V_iload_n 0 K.1 dJ6_bitCount_0f7a4_34 rfl rfl ?_
  refine V_iload_n 0 K.1 dJ6_bitCount_0f7a4_35 rfl rfl ?_
  refine V_bipush (v := 8) K.1 dJ6_bitCount_0f7a4_36 (by decide) ?_
  refine V_iushr K.1 dJ6_bitCount_0f7a4_38 ?_
  refine V_iadd K.1 dJ6_bitCount_0f7a4_39 ?_
  refine V_istore_n (L' := [(0, .int (x0 + ((x0).toUInt32 >>> (((8 : Int32)).toUInt32 &&& Int32.toUInt32 31)).toInt32))]) K.1 dJ6_bitCount_0f7a4_40 rfl (by decide) rfl ?_
  exact k1
set_option maxRecDepth 20000 in
theorem R_J6_bitCount_0f7a4_41 {ω : WT} {κ : KT} {l : Launch} {d : Nat} {post : Option Value → St → Prop} {σ : St} {x0 : Int32}  (K : Cm ω κ l yJ6_bitCount_0f7a4 cJ6_bitCount_0f7a4 1 d (some .int) post)
    (k1 : V ω κ 48 [(0, .int (x0 + ((x0).toUInt32 >>> (((16 : Int32)).toUInt32 &&& Int32.toUInt32 31)).toInt32))] [] σ) :
    V ω κ 41 [(0, .int x0)] [] σ := by
  refine V_iload_n 0 K.1 dJ6_bitCount_0f7a4_41 rfl rfl ?_
  refine V_iload_n 0 K.1 dJ6_bitCount_0f7a4_42 rfl rfl ?_
  refine V_bipush (v := 16) K.1 dJ6_bitCount_0f7a4_43 (by decide) ?_
  refine V_iushr K.1 dJ6_bitCount_0f7a4_45 ?_
  refine V_iadd K.1 dJ6_bitCount_0f7a4_46 ?_
  refine V_istore_n (L' := [(0, .int (x0 + ((x0).toUInt32 >>> (((16 : Int32)).toUInt32 &&& Int32.toUInt32 31)).toInt32))]) K.1 dJ6_bitCount_0f7a4_47 rfl (by decide) rfl ?_
  exact k1
set_option maxRecDepth 20000 in
theorem R_J6_bitCount_0f7a4_48 {ω : WT} {κ : KT} {l : Launch} {d : Nat} {post : Option Value → St → Prop} {σ : St} {x0 : Int32}  (K : Cm ω κ l yJ6_bitCount_0f7a4 cJ6_bitCount_0f7a4 1 d (some .int) post)
    (k1 : post (some (.int (x0 &&& (63 : Int32)))) σ) :
    V ω κ 48 [(0, .int x0)] [] σ := by
  refine V_iload_n 0 K.1 dJ6_bitCount_0f7a4_48 rfl rfl ?_
  refine V_bipush (v := 63) K.1 dJ6_bitCount_0f7a4_49 (by decide) ?_
  refine V_iand K.1 dJ6_bitCount_0f7a4_51 ?_
  exact V_iret K dJ6_bitCount_0f7a4_52 k1
set_option maxRecDepth 20000 in
theorem R_X9_bits_0 {ω : WT} {κ : KT} {l : Launch} {d : Nat} {post : Option Value → St → Prop} {σ : St} {x0 : Int32}  (K : Cm ω κ l yX9_bits cX9_bits 3 d (some .int) post)
    (k1 : V ω κ 4 [(0, .int x0), (1, .int (0 : Int32)), (2, .int (0 : Int32))] [] σ) :
    V ω κ 0 [(0, .int x0)] [] σ := by
  refine V_iconst (v := 0) K.1 dX9_bits_0 (by decide) ?_
  refine V_istore_n (L' := [(0, .int x0), (1, .int (0 : Int32))]) K.1 dX9_bits_1 rfl (by decide) rfl ?_
  refine V_iconst (v := 0) K.1 dX9_bits_2 (by decide) ?_
  refine V_istore_n (L' := [(0, .int x0), (1, .int (0 : Int32)), (2, .int (0 : Int32))]) K.1 dX9_bits_3 rfl (by decide) rfl ?_
  exact k1
set_option maxRecDepth 20000 in
theorem R_X9_bits_4 {ω : WT} {κ : KT} {l : Launch} {d : Nat} {post : Option Value → St → Prop} {σ : St} {x0 x1 x2 : Int32}  (K : Cm ω κ l yX9_bits cX9_bits 3 d (some .int) post)
    (k1 : ((20 : Int32) ≤ x2) → post (some (.int x1)) σ)
    (k2 : ¬ ((20 : Int32) ≤ x2) → V ω κ 4 [(0, .int x0), (1, .int (x1 + ((x0 >>> (x2 &&& 31)) &&& (1 : Int32)))), (2, .int (x2 + 1))] [] σ) :
    V ω κ 4 [(0, .int x0), (1, .int x1), (2, .int x2)] [] σ := by
  refine V_iload_n 2 K.1 dX9_bits_4 rfl rfl ?_
  refine V_bipush (v := 20) K.1 dX9_bits_5 (by decide) ?_
  refine V_icmp_ge (tgt := 24) K.1 dX9_bits_7 (by decide) (fun c7 => ?_) (fun c7 => ?_)
  · refine V_iload_n 1 K.1 dX9_bits_24 rfl rfl ?_
    exact V_iret K dX9_bits_25 (k1 c7)
  · refine V_iload_n 1 K.1 dX9_bits_10 rfl rfl ?_
    refine V_iload_n 0 K.1 dX9_bits_11 rfl rfl ?_
    refine V_iload_n 2 K.1 dX9_bits_12 rfl rfl ?_
    refine V_ishr K.1 dX9_bits_13 ?_
    refine V_iconst (v := 1) K.1 dX9_bits_14 (by decide) ?_
    refine V_iand K.1 dX9_bits_15 ?_
    refine V_iadd K.1 dX9_bits_16 ?_
    refine V_istore_n (L' := [(0, .int x0), (1, .int (x1 + ((x0 >>> (x2 &&& 31)) &&& (1 : Int32)))), (2, .int x2)]) K.1 dX9_bits_17 rfl (by decide) rfl ?_
    refine V_iinc (v := (x2 + 1)) (L' := [(0, .int x0), (1, .int (x1 + ((x0 >>> (x2 &&& 31)) &&& (1 : Int32)))), (2, .int (x2 + 1))]) 2 K.1 dX9_bits_18 rfl rfl (by decide) rfl ?_
    refine V_goto (tgt := 4) K.1 dX9_bits_21 (by decide) ?_
    exact (k2 c7)
set_option maxRecDepth 20000 in
theorem R_J7_fill_53178_0 {ω : WT} {κ : KT} {l : Launch} {d : Nat} {post : Option Value → St → Prop} {σ : St} {x1 : Int32} {n : Nat} {k : Nat} (hk : shpA k = some (0, n)) (K : Cm ω κ l yJ7_fill_53178 cJ7_fill_53178 4 d none post)
    (k1 : V ω κ 5 [(0, .ref (ω.2.2.1 k)), (1, .int x1), (2, .int (0 : Int32)), (3, .int (Int32.ofNat n))] [] σ) :
    V ω κ 0 [(0, .ref (ω.2.2.1 k)), (1, .int x1)] [] σ := by
  refine V_iconst (v := 0) K.1 dJ7_fill_53178_0 (by decide) ?_
  refine V_istore_n (L' := [(0, .ref (ω.2.2.1 k)), (1, .int x1), (2, .int (0 : Int32))]) K.1 dJ7_fill_53178_1 rfl (by decide) rfl ?_
  refine V_aload_n 0 K.1 dJ7_fill_53178_2 rfl rfl ?_
  refine V_alenI K.1 dJ7_fill_53178_3 hk rfl ?_
  refine V_istore_n (L' := [(0, .ref (ω.2.2.1 k)), (1, .int x1), (2, .int (0 : Int32)), (3, .int (Int32.ofNat n))]) K.1 dJ7_fill_53178_4 rfl (by decide) rfl ?_
  exact k1
set_option maxRecDepth 20000 in
theorem R_J7_fill_53178_5 {ω : WT} {κ : KT} {l : Launch} {d : Nat} {post : Option Value → St → Prop} {σ : St} {x1 x2 x3 : Int32} {n : Nat} {k : Nat} (hk : shpA k = some (0, n)) (K : Cm ω κ l yJ7_fill_53178 cJ7_fill_53178 4 d none post)
    (k1 : (x3 ≤ x2) → post none σ)
    (b2 : ¬ (x3 ≤ x2) → vp_in x2 n)
    (k3 : ¬ (x3 ≤ x2) → V ω κ 5 [(0, .ref (ω.2.2.1 k)), (1, .int x1), (2, .int (x2 + 1)), (3, .int x3)] [] (pA σ k (x2).toNatClampNeg x1)) :
    V ω κ 5 [(0, .ref (ω.2.2.1 k)), (1, .int x1), (2, .int x2), (3, .int x3)] [] σ := by
  refine V_iload_n 2 K.1 dJ7_fill_53178_5 rfl rfl ?_
  refine V_iload_n 3 K.1 dJ7_fill_53178_6 rfl rfl ?_
  refine V_icmp_ge (tgt := 20) K.1 dJ7_fill_53178_7 (by decide) (fun c7 => ?_) (fun c7 => ?_)
  · exact V_vret K dJ7_fill_53178_20 (k1 c7)
  · refine V_aload_n 0 K.1 dJ7_fill_53178_10 rfl rfl ?_
    refine V_iload_n 2 K.1 dJ7_fill_53178_11 rfl rfl ?_
    refine V_iload_n 1 K.1 dJ7_fill_53178_12 rfl rfl ?_
    refine V_iastore K.1 dJ7_fill_53178_13 hk (b2 c7) ?_
    refine V_iinc (v := (x2 + 1)) (L' := [(0, .ref (ω.2.2.1 k)), (1, .int x1), (2, .int (x2 + 1)), (3, .int x3)]) 2 K.1 dJ7_fill_53178_14 rfl rfl (by decide) rfl ?_
    refine V_goto (tgt := 5) K.1 dJ7_fill_53178_17 (by decide) ?_
    exact (k3 c7)
set_option maxRecDepth 20000 in
theorem R_J7_fill_d0a16_0 {ω : WT} {κ : KT} {l : Launch} {d : Nat} {post : Option Value → St → Prop} {σ : St} {x1 : Int64} {n : Nat} {k : Nat} (hk : shpA k = some (1, n)) (K : Cm ω κ l yJ7_fill_d0a16 cJ7_fill_d0a16 5 d none post)
    (k1 : V ω κ 6 [(0, .ref (ω.2.2.1 k)), (1, .long x1), (3, .int (0 : Int32)), (4, .int (Int32.ofNat n))] [] σ) :
    V ω κ 0 [(0, .ref (ω.2.2.1 k)), (1, .long x1)] [] σ := by
  refine V_iconst (v := 0) K.1 dJ7_fill_d0a16_0 (by decide) ?_
  refine V_istore_n (L' := [(0, .ref (ω.2.2.1 k)), (1, .long x1), (3, .int (0 : Int32))]) K.1 dJ7_fill_d0a16_1 rfl (by decide) rfl ?_
  refine V_aload_n 0 K.1 dJ7_fill_d0a16_2 rfl rfl ?_
  refine V_alenL K.1 dJ7_fill_d0a16_3 hk rfl ?_
  refine V_istore (L' := [(0, .ref (ω.2.2.1 k)), (1, .long x1), (3, .int (0 : Int32)), (4, .int (Int32.ofNat n))]) K.1 dJ7_fill_d0a16_4 (by decide) rfl ?_
  exact k1
set_option maxRecDepth 20000 in
theorem R_J7_fill_d0a16_6 {ω : WT} {κ : KT} {l : Launch} {d : Nat} {post : Option Value → St → Prop} {σ : St} {x3 x4 : Int32} {x1 : Int64} {n : Nat} {k : Nat} (hk : shpA k = some (1, n)) (K : Cm ω κ l yJ7_fill_d0a16 cJ7_fill_d0a16 5 d none post)
    (k1 : (x4 ≤ x3) → post none σ)
    (b2 : ¬ (x4 ≤ x3) → vp_in x3 n)
    (k3 : ¬ (x4 ≤ x3) → V ω κ 6 [(0, .ref (ω.2.2.1 k)), (1, .long x1), (3, .int (x3 + 1)), (4, .int x4)] [] (pM σ k (x3).toNatClampNeg x1)) :
    V ω κ 6 [(0, .ref (ω.2.2.1 k)), (1, .long x1), (3, .int x3), (4, .int x4)] [] σ := by
  refine V_iload_n 2 K.1 dJ7_fill_d0a16_6 rfl rfl ?_
  refine V_iload 3 K.1 dJ7_fill_d0a16_7 rfl ?_
  refine V_icmp_ge (tgt := 22) K.1 dJ7_fill_d0a16_9 (by decide) (fun c9 => ?_) (fun c9 => ?_)
  · exact V_vret K dJ7_fill_d0a16_22 (k1 c9)
  · refine V_aload_n 0 K.1 dJ7_fill_d0a16_12 rfl rfl ?_
    refine V_iload_n 2 K.1 dJ7_fill_d0a16_13 rfl rfl ?_
    refine V_lload_n 1 K.1 dJ7_fill_d0a16_14 rfl rfl ?_
    refine V_lastore K.1 dJ7_fill_d0a16_15 hk (b2 c9) ?_
    refine V_iinc (v := (x3 + 1)) (L' := [(0, .ref (ω.2.2.1 k)), (1, .long x1), (3, .int (x3 + 1)), (4, .int x4)]) 2 K.1 dJ7_fill_d0a16_16 rfl rfl (by decide) rfl ?_
    refine V_goto (tgt := 6) K.1 dJ7_fill_d0a16_19 (by decide) ?_
    exact (k3 c9)
set_option maxRecDepth 20000 in
theorem R_X2_firstOf_0 {ω : WT} {κ : KT} {l : Launch} {d : Nat} {post : Option Value → St → Prop} {σ : St} {x0 x1 : Int32}  (K : Cm ω κ l yX2_firstOf cX2_firstOf 5 d (some .int) post)
    (k1 : V ω κ 4 [(0, .int x0), (1, .int x1), (2, .int (0 : Int32)), (3, .int (0 : Int32))] [] σ) :
    V ω κ 0 [(0, .int x0), (1, .int x1)] [] σ := by
  refine V_iconst (v := 0) K.1 dX2_firstOf_0 (by decide) ?_
  refine V_istore_n (L' := [(0, .int x0), (1, .int x1), (2, .int (0 : Int32))]) K.1 dX2_firstOf_1 rfl (by decide) rfl ?_
  refine V_iconst (v := 0) K.1 dX2_firstOf_2 (by decide) ?_
  refine V_istore_n (L' := [(0, .int x0), (1, .int x1), (2, .int (0 : Int32)), (3, .int (0 : Int32))]) K.1 dX2_firstOf_3 rfl (by decide) rfl ?_
  exact k1
set_option maxRecDepth 20000 in
theorem R_X2_firstOf_4 {ω : WT} {κ : KT} {l : Launch} {d : Nat} {post : Option Value → St → Prop} {σ : St} {x0 x1 x2 x3 : Int32}  (K : Cm ω κ l yX2_firstOf cX2_firstOf 5 d (some .int) post)
    (k1 : ((8 : Int32) ≤ x3) → post (some (.int x2)) σ)
    (k2 : ¬ ((8 : Int32) ≤ x3) → (x1 ≤ 0) → post (some (.int x2)) σ)
    (k3 : ¬ ((8 : Int32) ≤ x3) → ¬ (x1 ≤ 0) → ((x0 &&& ((1 : Int32) <<< (x3 &&& 31))) = 0) → V ω κ 4 [(0, .int x0), (1, .int x1), (2, .int x2), (3, .int (x3 + 1))] [] σ)
    (k4 : ¬ ((8 : Int32) ≤ x3) → ¬ (x1 ≤ 0) → ¬ ((x0 &&& ((1 : Int32) <<< (x3 &&& 31))) = 0) → V ω κ 4 [(0, .int x0), (1, .int (x1 + -1)), (2, .int (x2 ||| (x0 &&& ((1 : Int32) <<< (x3 &&& 31))))), (3, .int (x3 + 1))] [] σ) :
    V ω κ 4 [(0, .int x0), (1, .int x1), (2, .int x2), (3, .int x3)] [] σ := by
  refine V_iload_n 3 K.1 dX2_firstOf_4 rfl rfl ?_
  refine V_bipush (v := 8) K.1 dX2_firstOf_5 (by decide) ?_
  refine V_icmp_ge (tgt := 40) K.1 dX2_firstOf_7 (by decide) (fun c7 => ?_) (fun c7 => ?_)
  · refine V_iload_n 2 K.1 dX2_firstOf_40 rfl rfl ?_
    exact V_iret K dX2_firstOf_41 (k1 c7)
  · refine V_iload_n 1 K.1 dX2_firstOf_10 rfl rfl ?_
    refine V_if_le (tgt := 40) K.1 dX2_firstOf_11 (by decide) (fun c11 => ?_) (fun c11 => ?_)
    · refine V_iload_n 2 K.1 dX2_firstOf_40 rfl rfl ?_
      exact V_iret K dX2_firstOf_41 (k2 c7 c11)
    · refine V_iload_n 0 K.1 dX2_firstOf_14 rfl rfl ?_
      refine V_iconst (v := 1) K.1 dX2_firstOf_15 (by decide) ?_
      refine V_iload_n 3 K.1 dX2_firstOf_16 rfl rfl ?_
      refine V_ishl K.1 dX2_firstOf_17 ?_
      refine V_iand K.1 dX2_firstOf_18 ?_
      refine V_istore (L' := [(0, .int x0), (1, .int x1), (2, .int x2), (3, .int x3), (4, .int (x0 &&& ((1 : Int32) <<< (x3 &&& 31))))]) K.1 dX2_firstOf_19 (by decide) rfl ?_
      refine V_iload 4 K.1 dX2_firstOf_21 rfl ?_
      refine V_if_eq (tgt := 34) K.1 dX2_firstOf_23 (by decide) (fun c23 => ?_) (fun c23 => ?_)
      · refine V_iinc (v := (x3 + 1)) (L' := [(0, .int x0), (1, .int x1), (2, .int x2), (3, .int (x3 + 1)), (4, .int (x0 &&& ((1 : Int32) <<< (x3 &&& 31))))]) 3 K.1 dX2_firstOf_34 rfl rfl (by decide) rfl ?_
        refine V_goto (tgt := 4) K.1 dX2_firstOf_37 (by decide) ?_
        exact V_sub [0, 1, 2, 3] rfl (k3 c7 c11 c23)
      · refine V_iload_n 2 K.1 dX2_firstOf_26 rfl rfl ?_
        refine V_iload 4 K.1 dX2_firstOf_27 rfl ?_
        refine V_ior K.1 dX2_firstOf_29 ?_
        refine V_istore_n (L' := [(0, .int x0), (1, .int x1), (2, .int (x2 ||| (x0 &&& ((1 : Int32) <<< (x3 &&& 31))))), (3, .int x3), (4, .int (x0 &&& ((1 : Int32) <<< (x3 &&& 31))))]) K.1 dX2_firstOf_30 rfl (by decide) rfl ?_
        refine V_iinc (v := (x1 + -1)) (L' := [(0, .int x0), (1, .int (x1 + -1)), (2, .int (x2 ||| (x0 &&& ((1 : Int32) <<< (x3 &&& 31))))), (3, .int x3), (4, .int (x0 &&& ((1 : Int32) <<< (x3 &&& 31))))]) 1 K.1 dX2_firstOf_31 rfl rfl (by decide) rfl ?_
        refine V_iinc (v := (x3 + 1)) (L' := [(0, .int x0), (1, .int (x1 + -1)), (2, .int (x2 ||| (x0 &&& ((1 : Int32) <<< (x3 &&& 31))))), (3, .int (x3 + 1)), (4, .int (x0 &&& ((1 : Int32) <<< (x3 &&& 31))))]) 3 K.1 dX2_firstOf_34 rfl rfl (by decide) rfl ?_
        refine V_goto (tgt := 4) K.1 dX2_firstOf_37 (by decide) ?_
        exact V_sub [0, 1, 2, 3] rfl (k4 c7 c11 c23)
set_option maxRecDepth 20000 in
theorem R_X2_inTurn_0 {ω : WT} {κ : KT} {l : Launch} {d : Nat} {post : Option Value → St → Prop} {σ : St} {x1 : Int32}  (K : Cm ω κ l yX2_inTurn cX2_inTurn 4 d (some .int) post)
    (k1 : V ω κ 4 [(0, .ref (ω.2.2.1 14)), (1, .int x1), (2, .int (0 : Int32)), (3, .int (0 : Int32))] [] σ) :
    V ω κ 0 [(0, .ref (ω.2.2.1 14)), (1, .int x1)] [] σ := by
  refine V_iconst (v := 0) K.1 dX2_inTurn_0 (by decide) ?_
  refine V_istore_n (L' := [(0, .ref (ω.2.2.1 14)), (1, .int x1), (2, .int (0 : Int32))]) K.1 dX2_inTurn_1 rfl (by decide) rfl ?_
  refine V_iconst (v := 0) K.1 dX2_inTurn_2 (by decide) ?_
  refine V_istore_n (L' := [(0, .ref (ω.2.2.1 14)), (1, .int x1), (2, .int (0 : Int32)), (3, .int (0 : Int32))]) K.1 dX2_inTurn_3 rfl (by decide) rfl ?_
  exact k1
set_option maxRecDepth 20000 in
theorem R_X2_inTurn_4 {ω : WT} {κ : KT} {l : Launch} {d : Nat} {post : Option Value → St → Prop} {σ : St} {x1 x2 x3 : Int32}  (K : Cm ω κ l yX2_inTurn cX2_inTurn 4 d (some .int) post)
    (k1 : ((σ.1 901) ≤ x3) → post (some (.int ((x1 * (256 : Int32)) + x2))) σ)
    (k3 : ¬ ((σ.1 901) ≤ x3) → V ω κ 4 [(0, .ref (ω.2.2.1 14)), (1, .int (if ((σ.1 640) ≤ (x1 + (1 : Int32))) then (0 : Int32) else (x1 + (1 : Int32)))), (2, .int (x2 ||| ((1 : Int32) <<< ((if ((σ.1 640) ≤ (x1 + (1 : Int32))) then (0 : Int32) else (x1 + (1 : Int32))) &&& 31)))), (3, .int (x3 + 1))] [] σ) :
    V ω κ 4 [(0, .ref (ω.2.2.1 14)), (1, .int x1), (2, .int x2), (3, .int x3)] [] σ := by
  refine V_iload_n 3 K.1 dX2_inTurn_4 rfl rfl ?_
  refine V_aload_n 0 K.1 dX2_inTurn_5 rfl rfl ?_
  refine V_get (v := .int (σ.1 901)) K.1 dX2_inTurn_6 rfl rfl fw_X2_58 rfl rfl ?_
  refine V_icmp_ge (tgt := 45) K.1 dX2_inTurn_9 (by decide) (fun c9 => ?_) (fun c9 => ?_)
  · refine V_iload_n 1 K.1 dX2_inTurn_45 rfl rfl ?_
    refine V_sipush (v := 256) K.1 dX2_inTurn_46 (by decide) ?_
    refine V_imul K.1 dX2_inTurn_49 ?_
    refine V_iload_n 2 K.1 dX2_inTurn_50 rfl rfl ?_
    refine V_iadd K.1 dX2_inTurn_51 ?_
    exact V_iret K dX2_inTurn_52 (k1 c9)
  · refine V_iload_n 1 K.1 dX2_inTurn_12 rfl rfl ?_
    refine V_iconst (v := 1) K.1 dX2_inTurn_13 (by decide) ?_
    refine V_iadd K.1 dX2_inTurn_14 ?_
    refine V_aload_n 0 K.1 dX2_inTurn_15 rfl rfl ?_
    refine V_get (v := .ref (ω.2.2.1 10)) K.1 dX2_inTurn_16 rfl rfl fw_X2_9 rfl rfl ?_
    refine V_get (v := .int (σ.1 640)) K.1 dX2_inTurn_19 rfl rfl fw_X2_30 rfl rfl ?_
    refine V_join (J := 32) (S := []) (v := .int (if ((σ.1 640) ≤ (x1 + (1 : Int32))) then (0 : Int32) else (x1 + (1 : Int32)))) (fun hJ2 => ?_) ?_
    · refine V_icmp_ge (tgt := 31) K.1 dX2_inTurn_22 (by decide) (fun c22 => ?_) (fun c22 => ?_)
      · refine V_iconst (v := 0) K.1 dX2_inTurn_31 (by decide) ?_
        exact V_top (if_pos c22) hJ2
      · refine V_iload_n 1 K.1 dX2_inTurn_25 rfl rfl ?_
        refine V_iconst (v := 1) K.1 dX2_inTurn_26 (by decide) ?_
        refine V_iadd K.1 dX2_inTurn_27 ?_
        refine V_goto (tgt := 32) K.1 dX2_inTurn_28 (by decide) ?_
        exact V_top (if_neg c22) hJ2
    refine V_istore_n (L' := [(0, .ref (ω.2.2.1 14)), (1, .int (if ((σ.1 640) ≤ (x1 + (1 : Int32))) then (0 : Int32) else (x1 + (1 : Int32)))), (2, .int x2), (3, .int x3)]) K.1 dX2_inTurn_32 rfl (by decide) rfl ?_
    refine V_iload_n 2 K.1 dX2_inTurn_33 rfl rfl ?_
    refine V_iconst (v := 1) K.1 dX2_inTurn_34 (by decide) ?_
    refine V_iload_n 1 K.1 dX2_inTurn_35 rfl rfl ?_
    refine V_ishl K.1 dX2_inTurn_36 ?_
    refine V_ior K.1 dX2_inTurn_37 ?_
    refine V_istore_n (L' := [(0, .ref (ω.2.2.1 14)), (1, .int (if ((σ.1 640) ≤ (x1 + (1 : Int32))) then (0 : Int32) else (x1 + (1 : Int32)))), (2, .int (x2 ||| ((1 : Int32) <<< ((if ((σ.1 640) ≤ (x1 + (1 : Int32))) then (0 : Int32) else (x1 + (1 : Int32))) &&& 31)))), (3, .int x3)]) K.1 dX2_inTurn_38 rfl (by decide) rfl ?_
    refine V_iinc (v := (x3 + 1)) (L' := [(0, .ref (ω.2.2.1 14)), (1, .int (if ((σ.1 640) ≤ (x1 + (1 : Int32))) then (0 : Int32) else (x1 + (1 : Int32)))), (2, .int (x2 ||| ((1 : Int32) <<< ((if ((σ.1 640) ≤ (x1 + (1 : Int32))) then (0 : Int32) else (x1 + (1 : Int32))) &&& 31)))), (3, .int (x3 + 1))]) 3 K.1 dX2_inTurn_39 rfl rfl (by decide) rfl ?_
    refine V_goto (tgt := 4) K.1 dX2_inTurn_42 (by decide) ?_
    exact (k3 c9)
set_option maxRecDepth 20000 in
theorem R_X2_sayings_0 {ω : WT} {κ : KT} {l : Launch} {d : Nat} {post : Option Value → St → Prop} {σ : St} {x1 x2 x3 : Int32}  (K : Cm ω κ l yX2_sayings cX2_sayings 10 d (some .int) post)
    (k1 : V ω κ 22 [(0, .ref (ω.2.2.1 14)), (1, .int x1), (2, .int x2), (4, .int ((σ.1 646) &&& (x3 ^^^ (-1 : Int32)))), (5, .int (0 : Int32)), (6, .int (0 : Int32)), (7, .int (0 : Int32))] [] σ) :
    V ω κ 0 [(0, .ref (ω.2.2.1 14)), (1, .int x1), (2, .int x2), (3, .int x3)] [] σ := by
  refine V_aload_n 0 K.1 dX2_sayings_0 rfl rfl ?_
  refine V_get (v := .ref (ω.2.2.1 10)) K.1 dX2_sayings_1 rfl rfl fw_X2_9 rfl rfl ?_
  refine V_get (v := .int (σ.1 646)) K.1 dX2_sayings_4 rfl rfl fw_X2_74 rfl rfl ?_
  refine V_iload_n 3 K.1 dX2_sayings_7 rfl rfl ?_
  refine V_iconst (v := -1) K.1 dX2_sayings_8 (by decide) ?_
  refine V_ixor K.1 dX2_sayings_9 ?_
  refine V_iand K.1 dX2_sayings_10 ?_
  refine V_istore (L' := [(0, .ref (ω.2.2.1 14)), (1, .int x1), (2, .int x2), (3, .int x3), (4, .int ((σ.1 646) &&& (x3 ^^^ (-1 : Int32))))]) K.1 dX2_sayings_11 (by decide) rfl ?_
  refine V_iconst (v := 0) K.1 dX2_sayings_13 (by decide) ?_
  refine V_istore (L' := [(0, .ref (ω.2.2.1 14)), (1, .int x1), (2, .int x2), (3, .int x3), (4, .int ((σ.1 646) &&& (x3 ^^^ (-1 : Int32)))), (5, .int (0 : Int32))]) K.1 dX2_sayings_14 (by decide) rfl ?_
  refine V_iconst (v := 0) K.1 dX2_sayings_16 (by decide) ?_
  refine V_istore (L' := [(0, .ref (ω.2.2.1 14)), (1, .int x1), (2, .int x2), (3, .int x3), (4, .int ((σ.1 646) &&& (x3 ^^^ (-1 : Int32)))), (5, .int (0 : Int32)), (6, .int (0 : Int32))]) K.1 dX2_sayings_17 (by decide) rfl ?_
  refine V_iconst (v := 0) K.1 dX2_sayings_19 (by decide) ?_
  refine V_istore (L' := [(0, .ref (ω.2.2.1 14)), (1, .int x1), (2, .int x2), (3, .int x3), (4, .int ((σ.1 646) &&& (x3 ^^^ (-1 : Int32)))), (5, .int (0 : Int32)), (6, .int (0 : Int32)), (7, .int (0 : Int32))]) K.1 dX2_sayings_20 (by decide) rfl ?_
  exact V_sub [0, 1, 2, 4, 5, 6, 7] rfl k1
set_option maxRecDepth 20000 in
theorem R_X2_sayings_22 {ω : WT} {κ : KT} {l : Launch} {d : Nat} {post : Option Value → St → Prop} {σ : St} {x1 x2 x4 x5 x6 x7 : Int32}  (K : Cm ω κ l yX2_sayings cX2_sayings 10 d (some .int) post)
    (k1 : ((σ.1 640) ≤ x7) → post (some (.int x5)) σ)
    (k2 : ¬ ((σ.1 640) ≤ x7) → ((x1 &&& ((1 : Int32) <<< (x7 &&& 31))) = 0) → V ω κ 22 [(0, .ref (ω.2.2.1 14)), (1, .int x1), (2, .int x2), (4, .int x4), (5, .int x5), (6, .int x6), (7, .int (x7 + 1))] [] σ)
    (k4 : ¬ ((σ.1 640) ≤ x7) → ¬ ((x1 &&& ((1 : Int32) <<< (x7 &&& 31))) = 0) → (x6 = 0) → V ω κ 112 [(0, .ref (ω.2.2.1 14)), (1, .int x1), (2, .int x2), (4, .int x4), (5, .int x5), (6, .int x6), (7, .int x7), (8, .int ((1 : Int32) <<< (x7 &&& 31))), (9, .int (if ((x2 &&& ((1 : Int32) <<< (x7 &&& 31))) = 0) then (0 : Int32) else (1 : Int32)))] [] σ)
    (k5 : ¬ ((σ.1 640) ≤ x7) → ¬ ((x1 &&& ((1 : Int32) <<< (x7 &&& 31))) = 0) → ¬ (x6 = 0) → ((x4 &&& ((1 : Int32) <<< (x7 &&& 31))) = 0) → V ω κ 112 [(0, .ref (ω.2.2.1 14)), (1, .int x1), (2, .int x2), (4, .int x4), (5, .int x5), (6, .int x6), (7, .int x7), (8, .int ((1 : Int32) <<< (x7 &&& 31))), (9, .int (if ((x2 &&& ((1 : Int32) <<< (x7 &&& 31))) = 0) then (0 : Int32) else (1 : Int32)))] [] σ)
    (k9 : ¬ ((σ.1 640) ≤ x7) → ¬ ((x1 &&& ((1 : Int32) <<< (x7 &&& 31))) = 0) → ¬ (x6 = 0) → ¬ ((x4 &&& ((1 : Int32) <<< (x7 &&& 31))) = 0) → V ω κ 112 [(0, .ref (ω.2.2.1 14)), (1, .int x1), (2, .int x2), (4, .int x4), (5, .int x5), (6, .int x6), (7, .int x7), (8, .int ((1 : Int32) <<< (x7 &&& 31))), (9, .int (if ((if (x6 ≤ 0) then (0 : Int32) else (1 : Int32)) = (if (((σ.1 645) &&& ((1 : Int32) <<< (x7 &&& 31))) = 0) then (0 : Int32) else (1 : Int32))) then (0 : Int32) else (1 : Int32)))] [] σ) :
    V ω κ 22 [(0, .ref (ω.2.2.1 14)), (1, .int x1), (2, .int x2), (4, .int x4), (5, .int x5), (6, .int x6), (7, .int x7)] [] σ := by
  refine V_iload 6 K.1 dX2_sayings_22 rfl ?_
  refine V_aload_n 0 K.1 dX2_sayings_24 rfl rfl ?_
  refine V_get (v := .ref (ω.2.2.1 10)) K.1 dX2_sayings_25 rfl rfl fw_X2_9 rfl rfl ?_
  refine V_get (v := .int (σ.1 640)) K.1 dX2_sayings_28 rfl rfl fw_X2_30 rfl rfl ?_
  refine V_icmp_ge (tgt := 149) K.1 dX2_sayings_31 (by decide) (fun c31 => ?_) (fun c31 => ?_)
  · refine V_iload 4 K.1 dX2_sayings_149 rfl ?_
    exact V_iret K dX2_sayings_151 (k1 c31)
  · refine V_iconst (v := 1) K.1 dX2_sayings_34 (by decide) ?_
    refine V_iload 6 K.1 dX2_sayings_35 rfl ?_
    refine V_ishl K.1 dX2_sayings_37 ?_
    refine V_istore (L' := [(0, .ref (ω.2.2.1 14)), (1, .int x1), (2, .int x2), (4, .int x4), (5, .int x5), (6, .int x6), (7, .int x7), (8, .int ((1 : Int32) <<< (x7 &&& 31)))]) K.1 dX2_sayings_38 (by decide) rfl ?_
    refine V_iload_n 1 K.1 dX2_sayings_40 rfl rfl ?_
    refine V_iload 7 K.1 dX2_sayings_41 rfl ?_
    refine V_iand K.1 dX2_sayings_43 ?_
    refine V_if_eq (tgt := 143) K.1 dX2_sayings_44 (by decide) (fun c44 => ?_) (fun c44 => ?_)
    · refine V_iinc (v := (x7 + 1)) (L' := [(0, .ref (ω.2.2.1 14)), (1, .int x1), (2, .int x2), (4, .int x4), (5, .int x5), (6, .int x6), (7, .int (x7 + 1)), (8, .int ((1 : Int32) <<< (x7 &&& 31)))]) 6 K.1 dX2_sayings_143 rfl rfl (by decide) rfl ?_
      refine V_goto (tgt := 22) K.1 dX2_sayings_146 (by decide) ?_
      exact V_sub [0, 1, 2, 3, 4, 5, 6] rfl (k2 c31 c44)
    · refine V_iload_n 2 K.1 dX2_sayings_47 rfl rfl ?_
      refine V_iload 7 K.1 dX2_sayings_48 rfl ?_
      refine V_iand K.1 dX2_sayings_50 ?_
      refine V_join (J := 59) (S := []) (v := .int (if ((x2 &&& ((1 : Int32) <<< (x7 &&& 31))) = 0) then (0 : Int32) else (1 : Int32))) (fun hJ3 => ?_) ?_
      · refine V_if_eq (tgt := 58) K.1 dX2_sayings_51 (by decide) (fun c51 => ?_) (fun c51 => ?_)
        · refine V_iconst (v := 0) K.1 dX2_sayings_58 (by decide) ?_
          exact V_top (if_pos c51) hJ3
        · refine V_iconst (v := 1) K.1 dX2_sayings_54 (by decide) ?_
          refine V_goto (tgt := 59) K.1 dX2_sayings_55 (by decide) ?_
          exact V_top (if_neg c51) hJ3
      refine V_istore (L' := [(0, .ref (ω.2.2.1 14)), (1, .int x1), (2, .int x2), (4, .int x4), (5, .int x5), (6, .int x6), (7, .int x7), (8, .int ((1 : Int32) <<< (x7 &&& 31))), (9, .int (if ((x2 &&& ((1 : Int32) <<< (x7 &&& 31))) = 0) then (0 : Int32) else (1 : Int32)))]) K.1 dX2_sayings_59 (by decide) rfl ?_
      refine V_iload 5 K.1 dX2_sayings_61 rfl ?_
      refine V_if_eq (tgt := 112) K.1 dX2_sayings_63 (by decide) (fun c63 => ?_) (fun c63 => ?_)
      · exact (k4 c31 c44 c63)
      · refine V_iload 3 K.1 dX2_sayings_66 rfl ?_
        refine V_iload 7 K.1 dX2_sayings_68 rfl ?_
        refine V_iand K.1 dX2_sayings_70 ?_
        refine V_if_eq (tgt := 112) K.1 dX2_sayings_71 (by decide) (fun c71 => ?_) (fun c71 => ?_)
        · exact (k5 c31 c44 c63 c71)
        · refine V_iload 5 K.1 dX2_sayings_74 rfl ?_
          refine V_join (J := 84) (S := []) (v := .int (if (x6 ≤ 0) then (0 : Int32) else (1 : Int32))) (fun hJ6 => ?_) ?_
          · refine V_if_le (tgt := 83) K.1 dX2_sayings_76 (by decide) (fun c76 => ?_) (fun c76 => ?_)
            · refine V_iconst (v := 0) K.1 dX2_sayings_83 (by decide) ?_
              exact V_top (if_pos c76) hJ6
            · refine V_iconst (v := 1) K.1 dX2_sayings_79 (by decide) ?_
              refine V_goto (tgt := 84) K.1 dX2_sayings_80 (by decide) ?_
              exact V_top (if_neg c76) hJ6
          refine V_aload_n 0 K.1 dX2_sayings_84 rfl rfl ?_
          refine V_get (v := .ref (ω.2.2.1 10)) K.1 dX2_sayings_85 rfl rfl fw_X2_9 rfl rfl ?_
          refine V_get (v := .int (σ.1 645)) K.1 dX2_sayings_88 rfl rfl fw_X2_77 rfl rfl ?_
          refine V_iload 7 K.1 dX2_sayings_91 rfl ?_
          refine V_iand K.1 dX2_sayings_93 ?_
          refine V_join (J := 102) (S := [.int (if (x6 ≤ 0) then (0 : Int32) else (1 : Int32))]) (v := .int (if (((σ.1 645) &&& ((1 : Int32) <<< (x7 &&& 31))) = 0) then (0 : Int32) else (1 : Int32))) (fun hJ7 => ?_) ?_
          · refine V_if_eq (tgt := 101) K.1 dX2_sayings_94 (by decide) (fun c94 => ?_) (fun c94 => ?_)
            · refine V_iconst (v := 0) K.1 dX2_sayings_101 (by decide) ?_
              exact V_top (if_pos c94) hJ7
            · refine V_iconst (v := 1) K.1 dX2_sayings_97 (by decide) ?_
              refine V_goto (tgt := 102) K.1 dX2_sayings_98 (by decide) ?_
              exact V_top (if_neg c94) hJ7
          refine V_join (J := 110) (S := []) (v := .int (if ((if (x6 ≤ 0) then (0 : Int32) else (1 : Int32)) = (if (((σ.1 645) &&& ((1 : Int32) <<< (x7 &&& 31))) = 0) then (0 : Int32) else (1 : Int32))) then (0 : Int32) else (1 : Int32))) (fun hJ8 => ?_) ?_
          · refine V_icmp_eq (tgt := 109) K.1 dX2_sayings_102 (by decide) (fun c102 => ?_) (fun c102 => ?_)
            · refine V_iconst (v := 0) K.1 dX2_sayings_109 (by decide) ?_
              exact V_top (if_pos c102) hJ8
            · refine V_iconst (v := 1) K.1 dX2_sayings_105 (by decide) ?_
              refine V_goto (tgt := 110) K.1 dX2_sayings_106 (by decide) ?_
              exact V_top (if_neg c102) hJ8
          refine V_istore (L' := [(0, .ref (ω.2.2.1 14)), (1, .int x1), (2, .int x2), (4, .int x4), (5, .int x5), (6, .int x6), (7, .int x7), (8, .int ((1 : Int32) <<< (x7 &&& 31))), (9, .int (if ((if (x6 ≤ 0) then (0 : Int32) else (1 : Int32)) = (if (((σ.1 645) &&& ((1 : Int32) <<< (x7 &&& 31))) = 0) then (0 : Int32) else (1 : Int32))) then (0 : Int32) else (1 : Int32)))]) K.1 dX2_sayings_110 (by decide) rfl ?_
          exact (k9 c31 c44 c63 c71)
set_option maxRecDepth 20000 in
theorem R_X2_sayings_112 {ω : WT} {κ : KT} {l : Launch} {d : Nat} {post : Option Value → St → Prop} {σ : St} {x1 x2 x4 x5 x6 x7 x8 x9 : Int32}  (K : Cm ω κ l yX2_sayings cX2_sayings 10 d (some .int) post)
    (k3 : V ω κ 22 [(0, .ref (ω.2.2.1 14)), (1, .int x1), (2, .int x2), (4, .int x4), (5, .int (x5 ||| (if (x9 = 0) then (0 : Int32) else x8))), (6, .int (x6 + (if (x9 = 0) then (-1 : Int32) else (1 : Int32)))), (7, .int (x7 + 1))] [] σ) :
    V ω κ 112 [(0, .ref (ω.2.2.1 14)), (1, .int x1), (2, .int x2), (4, .int x4), (5, .int x5), (6, .int x6), (7, .int x7), (8, .int x8), (9, .int x9)] [] σ := by
  refine V_iload 4 K.1 dX2_sayings_112 rfl ?_
  refine V_iload 8 K.1 dX2_sayings_114 rfl ?_
  refine V_join (J := 125) (S := [.int x5]) (v := .int (if (x9 = 0) then (0 : Int32) else x8)) (fun hJ1 => ?_) ?_
  · refine V_if_eq (tgt := 124) K.1 dX2_sayings_116 (by decide) (fun c116 => ?_) (fun c116 => ?_)
    · refine V_iconst (v := 0) K.1 dX2_sayings_124 (by decide) ?_
      exact V_top (if_pos c116) hJ1
    · refine V_iload 7 K.1 dX2_sayings_119 rfl ?_
      refine V_goto (tgt := 125) K.1 dX2_sayings_121 (by decide) ?_
      exact V_top (if_neg c116) hJ1
  refine V_ior K.1 dX2_sayings_125 ?_
  refine V_istore (L' := [(0, .ref (ω.2.2.1 14)), (1, .int x1), (2, .int x2), (4, .int x4), (5, .int (x5 ||| (if (x9 = 0) then (0 : Int32) else x8))), (6, .int x6), (7, .int x7), (8, .int x8), (9, .int x9)]) K.1 dX2_sayings_126 (by decide) rfl ?_
  refine V_iload 5 K.1 dX2_sayings_128 rfl ?_
  refine V_iload 8 K.1 dX2_sayings_130 rfl ?_
  refine V_join (J := 140) (S := [.int x6]) (v := .int (if (x9 = 0) then (-1 : Int32) else (1 : Int32))) (fun hJ2 => ?_) ?_
  · refine V_if_eq (tgt := 139) K.1 dX2_sayings_132 (by decide) (fun c132 => ?_) (fun c132 => ?_)
    · refine V_iconst (v := -1) K.1 dX2_sayings_139 (by decide) ?_
      exact V_top (if_pos c132) hJ2
    · refine V_iconst (v := 1) K.1 dX2_sayings_135 (by decide) ?_
      refine V_goto (tgt := 140) K.1 dX2_sayings_136 (by decide) ?_
      exact V_top (if_neg c132) hJ2
  refine V_iadd K.1 dX2_sayings_140 ?_
  refine V_istore (L' := [(0, .ref (ω.2.2.1 14)), (1, .int x1), (2, .int x2), (4, .int x4), (5, .int (x5 ||| (if (x9 = 0) then (0 : Int32) else x8))), (6, .int (x6 + (if (x9 = 0) then (-1 : Int32) else (1 : Int32)))), (7, .int x7), (8, .int x8), (9, .int x9)]) K.1 dX2_sayings_141 (by decide) rfl ?_
  refine V_iinc (v := (x7 + 1)) (L' := [(0, .ref (ω.2.2.1 14)), (1, .int x1), (2, .int x2), (4, .int x4), (5, .int (x5 ||| (if (x9 = 0) then (0 : Int32) else x8))), (6, .int (x6 + (if (x9 = 0) then (-1 : Int32) else (1 : Int32)))), (7, .int (x7 + 1)), (8, .int x8), (9, .int x9)]) 6 K.1 dX2_sayings_143 rfl rfl (by decide) rfl ?_
  refine V_goto (tgt := 22) K.1 dX2_sayings_146 (by decide) ?_
  exact V_sub [0, 1, 2, 3, 4, 5, 6] rfl k3
set_option maxRecDepth 20000 in
theorem R_X9_seatWinners_0 {ω : WT} {κ : KT} {l : Launch} {d : Nat} {post : Option Value → St → Prop} {σ : St}  (K : Cm ω κ l yX9_seatWinners cX9_seatWinners 7 d none post)
    (k2 : V ω κ 35 [(0, .ref (ω.2.2.1 35)), (1, .int (if ((σ.1 2265) = (1 : Int32)) then (σ.1 2264) else ((σ.1 2263) - (σ.1 2264)))), (2, .int (0 : Int32)), (3, .int (σ.1 2266)), (4, .int (0 : Int32))] [] σ) :
    V ω κ 0 [(0, .ref (ω.2.2.1 35))] [] σ := by
  refine V_aload_n 0 K.1 dX9_seatWinners_0 rfl rfl ?_
  refine V_get (v := .int (σ.1 2265)) K.1 dX9_seatWinners_1 rfl rfl fw_X9_180 rfl rfl ?_
  refine V_iconst (v := 1) K.1 dX9_seatWinners_4 (by decide) ?_
  refine V_join (J := 24) (S := []) (v := .int (if ((σ.1 2265) = (1 : Int32)) then (σ.1 2264) else ((σ.1 2263) - (σ.1 2264)))) (fun hJ1 => ?_) ?_
  · refine V_icmp_ne (tgt := 15) K.1 dX9_seatWinners_5 (by decide) (fun c5 => ?_) (fun c5 => ?_)
    · refine V_aload_n 0 K.1 dX9_seatWinners_15 rfl rfl ?_
      refine V_get (v := .int (σ.1 2263)) K.1 dX9_seatWinners_16 rfl rfl fw_X9_170 rfl rfl ?_
      refine V_aload_n 0 K.1 dX9_seatWinners_19 rfl rfl ?_
      refine V_get (v := .int (σ.1 2264)) K.1 dX9_seatWinners_20 rfl rfl fw_X9_173 rfl rfl ?_
      refine V_isub K.1 dX9_seatWinners_23 ?_
      exact V_top (if_neg c5) hJ1
    · refine V_aload_n 0 K.1 dX9_seatWinners_8 rfl rfl ?_
      refine V_get (v := .int (σ.1 2264)) K.1 dX9_seatWinners_9 rfl rfl fw_X9_173 rfl rfl ?_
      refine V_goto (tgt := 24) K.1 dX9_seatWinners_12 (by decide) ?_
      exact V_top (if_pos c5) hJ1
  refine V_istore_n (L' := [(0, .ref (ω.2.2.1 35)), (1, .int (if ((σ.1 2265) = (1 : Int32)) then (σ.1 2264) else ((σ.1 2263) - (σ.1 2264))))]) K.1 dX9_seatWinners_24 rfl (by decide) rfl ?_
  refine V_iconst (v := 0) K.1 dX9_seatWinners_25 (by decide) ?_
  refine V_istore_n (L' := [(0, .ref (ω.2.2.1 35)), (1, .int (if ((σ.1 2265) = (1 : Int32)) then (σ.1 2264) else ((σ.1 2263) - (σ.1 2264)))), (2, .int (0 : Int32))]) K.1 dX9_seatWinners_26 rfl (by decide) rfl ?_
  refine V_aload_n 0 K.1 dX9_seatWinners_27 rfl rfl ?_
  refine V_get (v := .int (σ.1 2266)) K.1 dX9_seatWinners_28 rfl rfl fw_X9_183 rfl rfl ?_
  refine V_istore_n (L' := [(0, .ref (ω.2.2.1 35)), (1, .int (if ((σ.1 2265) = (1 : Int32)) then (σ.1 2264) else ((σ.1 2263) - (σ.1 2264)))), (2, .int (0 : Int32)), (3, .int (σ.1 2266))]) K.1 dX9_seatWinners_31 rfl (by decide) rfl ?_
  refine V_iconst (v := 0) K.1 dX9_seatWinners_32 (by decide) ?_
  refine V_istore (L' := [(0, .ref (ω.2.2.1 35)), (1, .int (if ((σ.1 2265) = (1 : Int32)) then (σ.1 2264) else ((σ.1 2263) - (σ.1 2264)))), (2, .int (0 : Int32)), (3, .int (σ.1 2266)), (4, .int (0 : Int32))]) K.1 dX9_seatWinners_33 (by decide) rfl ?_
  exact k2
set_option maxRecDepth 20000 in
theorem R_X9_seatWinners_35 {ω : WT} {κ : KT} {l : Launch} {d : Nat} {post : Option Value → St → Prop} {σ : St} {x1 x2 x3 x4 : Int32}  (K : Cm ω κ l yX9_seatWinners cX9_seatWinners 7 d none post) (hdp : 1 ≤ d)
    (k1 : ((3 : Int32) ≤ x4) → post none (pS σ 2258 x2))
    (k3 : ¬ ((3 : Int32) ≤ x4) → V ω κ 79 [(0, .ref (ω.2.2.1 35)), (1, .int x1), (2, .int x2), (3, .int x3), (4, .int x4), (5, .int (if (x4 = 0) then x1 else (if (x4 = (1 : Int32)) then ((σ.1 2263) - x1) else ((((1 : Int32) <<< ((σ.1 2245) &&& 31)) - (1 : Int32)) - (σ.1 2263))))), (6, .int (0 : Int32))] [] σ) :
    V ω κ 35 [(0, .ref (ω.2.2.1 35)), (1, .int x1), (2, .int x2), (3, .int x3), (4, .int x4)] [] σ := by
  refine V_iload 4 K.1 dX9_seatWinners_35 rfl ?_
  refine V_iconst (v := 3) K.1 dX9_seatWinners_37 (by decide) ?_
  refine V_icmp_ge (tgt := 125) K.1 dX9_seatWinners_38 (by decide) (fun c38 => ?_) (fun c38 => ?_)
  · refine V_aload_n 0 K.1 dX9_seatWinners_125 rfl rfl ?_
    refine V_iload_n 2 K.1 dX9_seatWinners_126 rfl rfl ?_
    refine V_putI (key := 2258) K.1 dX9_seatWinners_127 rfl rfl fw_X9_154 pw_X9_18 rfl rfl rfl rfl ?_
    exact V_vret K dX9_seatWinners_130 (k1 c38)
  · refine V_iload 4 K.1 dX9_seatWinners_41 rfl ?_
    refine V_join (J := 74) (S := []) (v := .int (if (x4 = 0) then x1 else (if (x4 = (1 : Int32)) then ((σ.1 2263) - x1) else ((((1 : Int32) <<< ((σ.1 2245) &&& 31)) - (1 : Int32)) - (σ.1 2263))))) (fun hJ2 => ?_) ?_
    · refine V_if_ne (tgt := 50) K.1 dX9_seatWinners_43 (by decide) (fun c43 => ?_) (fun c43 => ?_)
      · refine V_iload 4 K.1 dX9_seatWinners_50 rfl ?_
        refine V_iconst (v := 1) K.1 dX9_seatWinners_52 (by decide) ?_
        refine V_icmp_ne (tgt := 65) K.1 dX9_seatWinners_53 (by decide) (fun c53 => ?_) (fun c53 => ?_)
        · refine V_aload_n 0 K.1 dX9_seatWinners_65 rfl rfl ?_
          refine V_callV (d' := d - 1) (As := []) K.1 dX9_seatWinners_66 cw_X9_150 rfl rfl rfl (by omega) rfl (by simp [Value.category]) (m_X9_everyone K.1.wf (by omega)) (go_I ?_)
          refine V_aload_n 0 K.1 dX9_seatWinners_69 rfl rfl ?_
          refine V_get (v := .int (σ.1 2263)) K.1 dX9_seatWinners_70 rfl rfl fw_X9_170 rfl rfl ?_
          refine V_isub K.1 dX9_seatWinners_73 ?_
          exact V_top ((if_neg c43).trans (if_neg c53)) hJ2
        · refine V_aload_n 0 K.1 dX9_seatWinners_56 rfl rfl ?_
          refine V_get (v := .int (σ.1 2263)) K.1 dX9_seatWinners_57 rfl rfl fw_X9_170 rfl rfl ?_
          refine V_iload_n 1 K.1 dX9_seatWinners_60 rfl rfl ?_
          refine V_isub K.1 dX9_seatWinners_61 ?_
          refine V_goto (tgt := 74) K.1 dX9_seatWinners_62 (by decide) ?_
          exact V_top ((if_neg c43).trans (if_pos c53)) hJ2
      · refine V_iload_n 1 K.1 dX9_seatWinners_46 rfl rfl ?_
        refine V_goto (tgt := 74) K.1 dX9_seatWinners_47 (by decide) ?_
        exact V_top (if_pos c43) hJ2
    refine V_istore (L' := [(0, .ref (ω.2.2.1 35)), (1, .int x1), (2, .int x2), (3, .int x3), (4, .int x4), (5, .int (if (x4 = 0) then x1 else (if (x4 = (1 : Int32)) then ((σ.1 2263) - x1) else ((((1 : Int32) <<< ((σ.1 2245) &&& 31)) - (1 : Int32)) - (σ.1 2263)))))]) K.1 dX9_seatWinners_74 (by decide) rfl ?_
    refine V_iconst (v := 0) K.1 dX9_seatWinners_76 (by decide) ?_
    refine V_istore (L' := [(0, .ref (ω.2.2.1 35)), (1, .int x1), (2, .int x2), (3, .int x3), (4, .int x4), (5, .int (if (x4 = 0) then x1 else (if (x4 = (1 : Int32)) then ((σ.1 2263) - x1) else ((((1 : Int32) <<< ((σ.1 2245) &&& 31)) - (1 : Int32)) - (σ.1 2263))))), (6, .int (0 : Int32))]) K.1 dX9_seatWinners_77 (by decide) rfl ?_
    exact (k3 c38)
set_option maxRecDepth 20000 in
theorem R_X9_seatWinners_79 {ω : WT} {κ : KT} {l : Launch} {d : Nat} {post : Option Value → St → Prop} {σ : St} {x1 x2 x3 x4 x5 x6 : Int32}  (K : Cm ω κ l yX9_seatWinners cX9_seatWinners 7 d none post)
    (k1 : ((σ.1 2245) ≤ x6) → V ω κ 35 [(0, .ref (ω.2.2.1 35)), (1, .int x1), (2, .int x2), (3, .int x3), (4, .int (x4 + 1))] [] σ)
    (k2 : ¬ ((σ.1 2245) ≤ x6) → (x3 ≤ 0) → V ω κ 35 [(0, .ref (ω.2.2.1 35)), (1, .int x1), (2, .int x2), (3, .int x3), (4, .int (x4 + 1))] [] σ)
    (k3 : ¬ ((σ.1 2245) ≤ x6) → ¬ (x3 ≤ 0) → ¬ (((x5 >>> (x6 &&& 31)) &&& (1 : Int32)) = (1 : Int32)) → V ω κ 79 [(0, .ref (ω.2.2.1 35)), (1, .int x1), (2, .int x2), (3, .int x3), (4, .int x4), (5, .int x5), (6, .int (x6 + 1))] [] σ)
    (k4 : ¬ ((σ.1 2245) ≤ x6) → ¬ (x3 ≤ 0) → (((x5 >>> (x6 &&& 31)) &&& (1 : Int32)) = (1 : Int32)) → V ω κ 79 [(0, .ref (ω.2.2.1 35)), (1, .int x1), (2, .int (x2 ||| ((1 : Int32) <<< (x6 &&& 31)))), (3, .int (x3 + -1)), (4, .int x4), (5, .int x5), (6, .int (x6 + 1))] [] σ) :
    V ω κ 79 [(0, .ref (ω.2.2.1 35)), (1, .int x1), (2, .int x2), (3, .int x3), (4, .int x4), (5, .int x5), (6, .int x6)] [] σ := by
  refine V_iload 6 K.1 dX9_seatWinners_79 rfl ?_
  refine V_aload_n 0 K.1 dX9_seatWinners_81 rfl rfl ?_
  refine V_get (v := .int (σ.1 2245)) K.1 dX9_seatWinners_82 rfl rfl fw_X9_91 rfl rfl ?_
  refine V_icmp_ge (tgt := 119) K.1 dX9_seatWinners_85 (by decide) (fun c85 => ?_) (fun c85 => ?_)
  · refine V_iinc (v := (x4 + 1)) (L' := [(0, .ref (ω.2.2.1 35)), (1, .int x1), (2, .int x2), (3, .int x3), (4, .int (x4 + 1)), (5, .int x5), (6, .int x6)]) 4 K.1 dX9_seatWinners_119 rfl rfl (by decide) rfl ?_
    refine V_goto (tgt := 35) K.1 dX9_seatWinners_122 (by decide) ?_
    exact V_sub [0, 1, 2, 3, 4] rfl (k1 c85)
  · refine V_iload_n 3 K.1 dX9_seatWinners_88 rfl rfl ?_
    refine V_if_le (tgt := 119) K.1 dX9_seatWinners_89 (by decide) (fun c89 => ?_) (fun c89 => ?_)
    · refine V_iinc (v := (x4 + 1)) (L' := [(0, .ref (ω.2.2.1 35)), (1, .int x1), (2, .int x2), (3, .int x3), (4, .int (x4 + 1)), (5, .int x5), (6, .int x6)]) 4 K.1 dX9_seatWinners_119 rfl rfl (by decide) rfl ?_
      refine V_goto (tgt := 35) K.1 dX9_seatWinners_122 (by decide) ?_
      exact V_sub [0, 1, 2, 3, 4] rfl (k2 c85 c89)
    · refine V_iload 5 K.1 dX9_seatWinners_92 rfl ?_
      refine V_iload 6 K.1 dX9_seatWinners_94 rfl ?_
      refine V_ishr K.1 dX9_seatWinners_96 ?_
      refine V_iconst (v := 1) K.1 dX9_seatWinners_97 (by decide) ?_
      refine V_iand K.1 dX9_seatWinners_98 ?_
      refine V_iconst (v := 1) K.1 dX9_seatWinners_99 (by decide) ?_
      refine V_icmp_ne (tgt := 113) K.1 dX9_seatWinners_100 (by decide) (fun c100 => ?_) (fun c100 => ?_)
      · refine V_iinc (v := (x6 + 1)) (L' := [(0, .ref (ω.2.2.1 35)), (1, .int x1), (2, .int x2), (3, .int x3), (4, .int x4), (5, .int x5), (6, .int (x6 + 1))]) 6 K.1 dX9_seatWinners_113 rfl rfl (by decide) rfl ?_
        refine V_goto (tgt := 79) K.1 dX9_seatWinners_116 (by decide) ?_
        exact (k3 c85 c89 c100)
      · refine V_iload_n 2 K.1 dX9_seatWinners_103 rfl rfl ?_
        refine V_iconst (v := 1) K.1 dX9_seatWinners_104 (by decide) ?_
        refine V_iload 6 K.1 dX9_seatWinners_105 rfl ?_
        refine V_ishl K.1 dX9_seatWinners_107 ?_
        refine V_ior K.1 dX9_seatWinners_108 ?_
        refine V_istore_n (L' := [(0, .ref (ω.2.2.1 35)), (1, .int x1), (2, .int (x2 ||| ((1 : Int32) <<< (x6 &&& 31)))), (3, .int x3), (4, .int x4), (5, .int x5), (6, .int x6)]) K.1 dX9_seatWinners_109 rfl (by decide) rfl ?_
        refine V_iinc (v := (x3 + -1)) (L' := [(0, .ref (ω.2.2.1 35)), (1, .int x1), (2, .int (x2 ||| ((1 : Int32) <<< (x6 &&& 31)))), (3, .int (x3 + -1)), (4, .int x4), (5, .int x5), (6, .int x6)]) 3 K.1 dX9_seatWinners_110 rfl rfl (by decide) rfl ?_
        refine V_iinc (v := (x6 + 1)) (L' := [(0, .ref (ω.2.2.1 35)), (1, .int x1), (2, .int (x2 ||| ((1 : Int32) <<< (x6 &&& 31)))), (3, .int (x3 + -1)), (4, .int x4), (5, .int x5), (6, .int (x6 + 1))]) 6 K.1 dX9_seatWinners_113 rfl rfl (by decide) rfl ?_
        refine V_goto (tgt := 79) K.1 dX9_seatWinners_116 (by decide) ?_
        exact (k4 c85 c89 c100)
set_option maxRecDepth 20000 in
theorem R_X9_seatRound_0 {ω : WT} {κ : KT} {l : Launch} {d : Nat} {post : Option Value → St → Prop} {σ : St}  (K : Cm ω κ l yX9_seatRound cX9_seatRound 3 d none post)
    (k1 : V ω κ 4 [(0, .ref (ω.2.2.1 35)), (1, .int (0 : Int32)), (2, .int (0 : Int32))] [] σ) :
    V ω κ 0 [(0, .ref (ω.2.2.1 35))] [] σ := by
  refine V_iconst (v := 0) K.1 dX9_seatRound_0 (by decide) ?_
  refine V_istore_n (L' := [(0, .ref (ω.2.2.1 35)), (1, .int (0 : Int32))]) K.1 dX9_seatRound_1 rfl (by decide) rfl ?_
  refine V_iconst (v := 0) K.1 dX9_seatRound_2 (by decide) ?_
  refine V_istore_n (L' := [(0, .ref (ω.2.2.1 35)), (1, .int (0 : Int32)), (2, .int (0 : Int32))]) K.1 dX9_seatRound_3 rfl (by decide) rfl ?_
  exact k1
set_option maxRecDepth 20000 in
theorem R_X9_seatRound_4 {ω : WT} {κ : KT} {l : Launch} {d : Nat} {post : Option Value → St → Prop} {σ : St} {x1 x2 : Int32}  (K : Cm ω κ l yX9_seatRound cX9_seatRound 3 d none post)
    (k1 : ((σ.1 2266) ≤ x2) → post none (pS σ 2258 x1))
    (n2 : ¬ ((σ.1 2266) ≤ x2) → ¬ (σ.1 2245) = 0)
    (k3 : ¬ ((σ.1 2266) ≤ x2) → V ω κ 4 [(0, .ref (ω.2.2.1 35)), (1, .int (x1 ||| ((1 : Int32) <<< ((((σ.1 2260) + (1 : Int32)) - ((σ.1 2260) + (1 : Int32)) / (σ.1 2245) * (σ.1 2245)) &&& 31)))), (2, .int (x2 + 1))] [] (pS σ 2260 (((σ.1 2260) + (1 : Int32)) - ((σ.1 2260) + (1 : Int32)) / (σ.1 2245) * (σ.1 2245)))) :
    V ω κ 4 [(0, .ref (ω.2.2.1 35)), (1, .int x1), (2, .int x2)] [] σ := by
  refine V_iload_n 2 K.1 dX9_seatRound_4 rfl rfl ?_
  refine V_aload_n 0 K.1 dX9_seatRound_5 rfl rfl ?_
  refine V_get (v := .int (σ.1 2266)) K.1 dX9_seatRound_6 rfl rfl fw_X9_183 rfl rfl ?_
  refine V_icmp_ge (tgt := 42) K.1 dX9_seatRound_9 (by decide) (fun c9 => ?_) (fun c9 => ?_)
  · refine V_aload_n 0 K.1 dX9_seatRound_42 rfl rfl ?_
    refine V_iload_n 1 K.1 dX9_seatRound_43 rfl rfl ?_
    refine V_putI (key := 2258) K.1 dX9_seatRound_44 rfl rfl fw_X9_154 pw_X9_18 rfl rfl rfl rfl ?_
    exact V_vret K dX9_seatRound_47 (k1 c9)
  · refine V_aload_n 0 K.1 dX9_seatRound_12 rfl rfl ?_
    refine V_aload_n 0 K.1 dX9_seatRound_13 rfl rfl ?_
    refine V_get (v := .int (σ.1 2260)) K.1 dX9_seatRound_14 rfl rfl fw_X9_161 rfl rfl ?_
    refine V_iconst (v := 1) K.1 dX9_seatRound_17 (by decide) ?_
    refine V_iadd K.1 dX9_seatRound_18 ?_
    refine V_aload_n 0 K.1 dX9_seatRound_19 rfl rfl ?_
    refine V_get (v := .int (σ.1 2245)) K.1 dX9_seatRound_20 rfl rfl fw_X9_91 rfl rfl ?_
    refine V_irem K.1 dX9_seatRound_23 (n2 c9) ?_
    refine V_putI (key := 2260) K.1 dX9_seatRound_24 rfl rfl fw_X9_161 pw_X9_20 rfl rfl rfl rfl ?_
    refine V_iload_n 1 K.1 dX9_seatRound_27 rfl rfl ?_
    refine V_iconst (v := 1) K.1 dX9_seatRound_28 (by decide) ?_
    refine V_aload_n 0 K.1 dX9_seatRound_29 rfl rfl ?_
    refine V_get (v := .int (((σ.1 2260) + (1 : Int32)) - ((σ.1 2260) + (1 : Int32)) / (σ.1 2245) * (σ.1 2245))) K.1 dX9_seatRound_30 rfl rfl fw_X9_161 rfl rfl ?_
    refine V_ishl K.1 dX9_seatRound_33 ?_
    refine V_ior K.1 dX9_seatRound_34 ?_
    refine V_istore_n (L' := [(0, .ref (ω.2.2.1 35)), (1, .int (x1 ||| ((1 : Int32) <<< ((((σ.1 2260) + (1 : Int32)) - ((σ.1 2260) + (1 : Int32)) / (σ.1 2245) * (σ.1 2245)) &&& 31)))), (2, .int x2)]) K.1 dX9_seatRound_35 rfl (by decide) rfl ?_
    refine V_iinc (v := (x2 + 1)) (L' := [(0, .ref (ω.2.2.1 35)), (1, .int (x1 ||| ((1 : Int32) <<< ((((σ.1 2260) + (1 : Int32)) - ((σ.1 2260) + (1 : Int32)) / (σ.1 2245) * (σ.1 2245)) &&& 31)))), (2, .int (x2 + 1))]) 2 K.1 dX9_seatRound_36 rfl rfl (by decide) rfl ?_
    refine V_goto (tgt := 4) K.1 dX9_seatRound_39 (by decide) ?_
    exact (k3 c9)
set_option maxRecDepth 20000 in
theorem R_X9_poll_0 {ω : WT} {κ : KT} {l : Launch} {d : Nat} {post : Option Value → St → Prop} {σ : St} {x1 x2 x3 : Int32}  (K : Cm ω κ l yX9_poll cX9_poll 9 d none post)
    (k1 : V ω κ 22 [(0, .ref (ω.2.2.1 35)), (1, .int x1), (2, .int x2), (3, .int x3), (4, .int (0 : Int32)), (5, .int (0 : Int32)), (6, .int (0 : Int32))] [] (pS (pS σ 2263 (σ.1 2258)) 2264 (0 : Int32))) :
    V ω κ 0 [(0, .ref (ω.2.2.1 35)), (1, .int x1), (2, .int x2), (3, .int x3)] [] σ := by
  refine V_aload_n 0 K.1 dX9_poll_0 rfl rfl ?_
  refine V_aload_n 0 K.1 dX9_poll_1 rfl rfl ?_
  refine V_get (v := .int (σ.1 2258)) K.1 dX9_poll_2 rfl rfl fw_X9_154 rfl rfl ?_
  refine V_putI (key := 2263) K.1 dX9_poll_5 rfl rfl fw_X9_170 pw_X9_23 rfl rfl rfl rfl ?_
  refine V_aload_n 0 K.1 dX9_poll_8 rfl rfl ?_
  refine V_iconst (v := 0) K.1 dX9_poll_9 (by decide) ?_
  refine V_putI (key := 2264) K.1 dX9_poll_10 rfl rfl fw_X9_173 pw_X9_24 rfl rfl rfl rfl ?_
  refine V_iconst (v := 0) K.1 dX9_poll_13 (by decide) ?_
  refine V_istore (L' := [(0, .ref (ω.2.2.1 35)), (1, .int x1), (2, .int x2), (3, .int x3), (4, .int (0 : Int32))]) K.1 dX9_poll_14 (by decide) rfl ?_
  refine V_iconst (v := 0) K.1 dX9_poll_16 (by decide) ?_
  refine V_istore (L' := [(0, .ref (ω.2.2.1 35)), (1, .int x1), (2, .int x2), (3, .int x3), (4, .int (0 : Int32)), (5, .int (0 : Int32))]) K.1 dX9_poll_17 (by decide) rfl ?_
  refine V_iconst (v := 0) K.1 dX9_poll_19 (by decide) ?_
  refine V_istore (L' := [(0, .ref (ω.2.2.1 35)), (1, .int x1), (2, .int x2), (3, .int x3), (4, .int (0 : Int32)), (5, .int (0 : Int32)), (6, .int (0 : Int32))]) K.1 dX9_poll_20 (by decide) rfl ?_
  exact k1
set_option maxRecDepth 20000 in
theorem R_X9_poll_22 {ω : WT} {κ : KT} {l : Launch} {d : Nat} {post : Option Value → St → Prop} {σ : St} {x1 x2 x3 x4 x5 x6 : Int32}  (K : Cm ω κ l yX9_poll cX9_poll 9 d none post) (hdp : 1 ≤ d)
    (k4 : ((σ.1 2245) ≤ x6) → V ω κ 219 [(0, .ref (ω.2.2.1 35)), (6, .int (if (x4 ≤ x5) then (x5 - x4) else (x4 - x5))), (7, .int (if (x4 ≤ x5) then x5 else x4)), (8, .int ((x4 + x5) - (if (x4 ≤ x5) then x5 else x4)))] [] (pS σ 2265 (if (x4 = x5) then (-5 : Int32) else (if (x4 ≤ x5) then (0 : Int32) else (1 : Int32)))))
    (k5 : ¬ ((σ.1 2245) ≤ x6) → ¬ ((((σ.1 2258) >>> (x6 &&& 31)) &&& (1 : Int32)) = (1 : Int32)) → V ω κ 22 [(0, .ref (ω.2.2.1 35)), (1, .int x1), (2, .int x2), (3, .int x3), (4, .int x4), (5, .int x5), (6, .int (x6 + 1))] [] σ)
    (p7 : ¬ ((σ.1 2245) ≤ x6) → ((((σ.1 2258) >>> (x6 &&& 31)) &&& (1 : Int32)) = (1 : Int32)) → ¬ (((x2 >>> (x6 &&& 31)) &&& (1 : Int32)) = (1 : Int32)) → vp_in x6 8)
    (p8 : ¬ ((σ.1 2245) ≤ x6) → ((((σ.1 2258) >>> (x6 &&& 31)) &&& (1 : Int32)) = (1 : Int32)) → ¬ (((x2 >>> (x6 &&& 31)) &&& (1 : Int32)) = (1 : Int32)) → vp_in x6 8)
    (p9 : ¬ ((σ.1 2245) ≤ x6) → ((((σ.1 2258) >>> (x6 &&& 31)) &&& (1 : Int32)) = (1 : Int32)) → ¬ (((x2 >>> (x6 &&& 31)) &&& (1 : Int32)) = (1 : Int32)) → ¬ ((σ.2.1 39 (x6).toNatClampNeg) = 0) → ¬ (x4 = x5) → vp_in x6 8)
    (k10 : ¬ ((σ.1 2245) ≤ x6) → ((((σ.1 2258) >>> (x6 &&& 31)) &&& (1 : Int32)) = (1 : Int32)) → V ω κ 85 [(0, .ref (ω.2.2.1 35)), (1, .int x1), (2, .int x2), (3, .int x3), (4, .int x4), (5, .int x5), (6, .int x6), (7, .int (if (((x2 >>> (x6 &&& 31)) &&& (1 : Int32)) = (1 : Int32)) then (if (((x3 >>> (x6 &&& 31)) &&& (1 : Int32)) = (1 : Int32)) then (1 : Int32) else (0 : Int32)) else (if ((σ.2.1 39 (x6).toNatClampNeg) = 0) then (if ((((σ.2.1 40 (x6).toNatClampNeg) >>> (x1 &&& 31)) &&& (1 : Int32)) = (1 : Int32)) then (1 : Int32) else (0 : Int32)) else (if (x4 = x5) then (if ((((σ.2.1 40 (x6).toNatClampNeg) >>> (x1 &&& 31)) &&& (1 : Int32)) = (1 : Int32)) then (1 : Int32) else (0 : Int32)) else (if ((σ.2.1 39 (x6).toNatClampNeg) = (1 : Int32)) then (if (x4 ≤ x5) then (0 : Int32) else (1 : Int32)) else (if (x5 ≤ x4) then (0 : Int32) else (1 : Int32)))))))] [] σ) :
    V ω κ 22 [(0, .ref (ω.2.2.1 35)), (1, .int x1), (2, .int x2), (3, .int x3), (4, .int x4), (5, .int x5), (6, .int x6)] [] σ := by
  refine V_iload 6 K.1 dX9_poll_22 rfl ?_
  refine V_aload_n 0 K.1 dX9_poll_24 rfl rfl ?_
  refine V_get (v := .int (σ.1 2245)) K.1 dX9_poll_25 rfl rfl fw_X9_91 rfl rfl ?_
  refine V_icmp_ge (tgt := 143) K.1 dX9_poll_28 (by decide) (fun c28 => ?_) (fun c28 => ?_)
  · refine V_aload_n 0 K.1 dX9_poll_143 rfl rfl ?_
    refine V_iload 4 K.1 dX9_poll_144 rfl ?_
    refine V_iload 5 K.1 dX9_poll_146 rfl ?_
    refine V_join (J := 168) (S := [.ref (ω.2.2.1 35)]) (v := .int (if (x4 = x5) then (-5 : Int32) else (if (x4 ≤ x5) then (0 : Int32) else (1 : Int32)))) (fun hJ1 => ?_) ?_
    · refine V_icmp_ne (tgt := 156) K.1 dX9_poll_148 (by decide) (fun c148 => ?_) (fun c148 => ?_)
      · refine V_iload 4 K.1 dX9_poll_156 rfl ?_
        refine V_iload 5 K.1 dX9_poll_158 rfl ?_
        refine V_icmp_le (tgt := 167) K.1 dX9_poll_160 (by decide) (fun c160 => ?_) (fun c160 => ?_)
        · refine V_iconst (v := 0) K.1 dX9_poll_167 (by decide) ?_
          exact V_top ((if_neg c148).trans (if_pos c160)) hJ1
        · refine V_iconst (v := 1) K.1 dX9_poll_163 (by decide) ?_
          refine V_goto (tgt := 168) K.1 dX9_poll_164 (by decide) ?_
          exact V_top ((if_neg c148).trans (if_neg c160)) hJ1
      · refine V_bipush (v := -5) K.1 dX9_poll_151 (by decide) ?_
        refine V_goto (tgt := 168) K.1 dX9_poll_153 (by decide) ?_
        exact V_top (if_pos c148) hJ1
    refine V_putI (key := 2265) K.1 dX9_poll_168 rfl rfl fw_X9_180 pw_X9_25 rfl rfl rfl rfl ?_
    refine V_iload 4 K.1 dX9_poll_171 rfl ?_
    refine V_iload 5 K.1 dX9_poll_173 rfl ?_
    refine V_join (J := 191) (S := []) (v := .int (if (x4 ≤ x5) then (x5 - x4) else (x4 - x5))) (fun hJ2 => ?_) ?_
    · refine V_icmp_le (tgt := 186) K.1 dX9_poll_175 (by decide) (fun c175 => ?_) (fun c175 => ?_)
      · refine V_iload 5 K.1 dX9_poll_186 rfl ?_
        refine V_iload 4 K.1 dX9_poll_188 rfl ?_
        refine V_isub K.1 dX9_poll_190 ?_
        exact V_top (if_pos c175) hJ2
      · refine V_iload 4 K.1 dX9_poll_178 rfl ?_
        refine V_iload 5 K.1 dX9_poll_180 rfl ?_
        refine V_isub K.1 dX9_poll_182 ?_
        refine V_goto (tgt := 191) K.1 dX9_poll_183 (by decide) ?_
        exact V_top (if_neg c175) hJ2
    refine V_istore (L' := [(0, .ref (ω.2.2.1 35)), (1, .int x1), (2, .int x2), (3, .int x3), (4, .int x4), (5, .int x5), (6, .int (if (x4 ≤ x5) then (x5 - x4) else (x4 - x5)))]) K.1 dX9_poll_191 (by decide) rfl ?_
    refine V_iload 4 K.1 dX9_poll_193 rfl ?_
    refine V_iload 5 K.1 dX9_poll_195 rfl ?_
    refine V_join (J := 207) (S := []) (v := .int (if (x4 ≤ x5) then x5 else x4)) (fun hJ3 => ?_) ?_
    · refine V_icmp_le (tgt := 205) K.1 dX9_poll_197 (by decide) (fun c197 => ?_) (fun c197 => ?_)
      · refine V_iload 5 K.1 dX9_poll_205 rfl ?_
        exact V_top (if_pos c197) hJ3
      · refine V_iload 4 K.1 dX9_poll_200 rfl ?_
        refine V_goto (tgt := 207) K.1 dX9_poll_202 (by decide) ?_
        exact V_top (if_neg c197) hJ3
    refine V_istore (L' := [(0, .ref (ω.2.2.1 35)), (1, .int x1), (2, .int x2), (3, .int x3), (4, .int x4), (5, .int x5), (6, .int (if (x4 ≤ x5) then (x5 - x4) else (x4 - x5))), (7, .int (if (x4 ≤ x5) then x5 else x4))]) K.1 dX9_poll_207 (by decide) rfl ?_
    refine V_iload 4 K.1 dX9_poll_209 rfl ?_
    refine V_iload 5 K.1 dX9_poll_211 rfl ?_
    refine V_iadd K.1 dX9_poll_213 ?_
    refine V_iload 7 K.1 dX9_poll_214 rfl ?_
    refine V_isub K.1 dX9_poll_216 ?_
    refine V_istore (L' := [(0, .ref (ω.2.2.1 35)), (1, .int x1), (2, .int x2), (3, .int x3), (4, .int x4), (5, .int x5), (6, .int (if (x4 ≤ x5) then (x5 - x4) else (x4 - x5))), (7, .int (if (x4 ≤ x5) then x5 else x4)), (8, .int ((x4 + x5) - (if (x4 ≤ x5) then x5 else x4)))]) K.1 dX9_poll_217 (by decide) rfl ?_
    exact V_sub [0, 6, 7, 8] rfl (k4 c28)
  · refine V_aload_n 0 K.1 dX9_poll_31 rfl rfl ?_
    refine V_get (v := .int (σ.1 2258)) K.1 dX9_poll_32 rfl rfl fw_X9_154 rfl rfl ?_
    refine V_iload 6 K.1 dX9_poll_35 rfl ?_
    refine V_ishr K.1 dX9_poll_37 ?_
    refine V_iconst (v := 1) K.1 dX9_poll_38 (by decide) ?_
    refine V_iand K.1 dX9_poll_39 ?_
    refine V_iconst (v := 1) K.1 dX9_poll_40 (by decide) ?_
    refine V_icmp_ne (tgt := 137) K.1 dX9_poll_41 (by decide) (fun c41 => ?_) (fun c41 => ?_)
    · refine V_iinc (v := (x6 + 1)) (L' := [(0, .ref (ω.2.2.1 35)), (1, .int x1), (2, .int x2), (3, .int x3), (4, .int x4), (5, .int x5), (6, .int (x6 + 1))]) 6 K.1 dX9_poll_137 rfl rfl (by decide) rfl ?_
      refine V_goto (tgt := 22) K.1 dX9_poll_140 (by decide) ?_
      exact (k5 c28 c41)
    · refine V_iload_n 2 K.1 dX9_poll_44 rfl rfl ?_
      refine V_iload 6 K.1 dX9_poll_45 rfl ?_
      refine V_ishr K.1 dX9_poll_47 ?_
      refine V_iconst (v := 1) K.1 dX9_poll_48 (by decide) ?_
      refine V_iand K.1 dX9_poll_49 ?_
      refine V_iconst (v := 1) K.1 dX9_poll_50 (by decide) ?_
      refine V_join (J := 83) (S := []) (v := .int (if (((x2 >>> (x6 &&& 31)) &&& (1 : Int32)) = (1 : Int32)) then (if (((x3 >>> (x6 &&& 31)) &&& (1 : Int32)) = (1 : Int32)) then (1 : Int32) else (0 : Int32)) else (if ((σ.2.1 39 (x6).toNatClampNeg) = 0) then (if ((((σ.2.1 40 (x6).toNatClampNeg) >>> (x1 &&& 31)) &&& (1 : Int32)) = (1 : Int32)) then (1 : Int32) else (0 : Int32)) else (if (x4 = x5) then (if ((((σ.2.1 40 (x6).toNatClampNeg) >>> (x1 &&& 31)) &&& (1 : Int32)) = (1 : Int32)) then (1 : Int32) else (0 : Int32)) else (if ((σ.2.1 39 (x6).toNatClampNeg) = (1 : Int32)) then (if (x4 ≤ x5) then (0 : Int32) else (1 : Int32)) else (if (x5 ≤ x4) then (0 : Int32) else (1 : Int32))))))) (fun hJ6 => ?_) ?_
      · refine V_icmp_ne (tgt := 72) K.1 dX9_poll_51 (by decide) (fun c51 => ?_) (fun c51 => ?_)
        · refine V_aload_n 0 K.1 dX9_poll_72 rfl rfl ?_
          refine V_iload 6 K.1 dX9_poll_73 rfl ?_
          refine V_iload_n 1 K.1 dX9_poll_75 rfl rfl ?_
          refine V_iload 4 K.1 dX9_poll_76 rfl ?_
          refine V_iload 5 K.1 dX9_poll_78 rfl ?_
          refine V_callV (d' := d - 1) (As := [.int x6, .int x1, .int x4, .int x5]) K.1 dX9_poll_80 cw_X9_176 rfl rfl rfl (by omega) rfl (by simp [Value.category]) (m_X9_says K.1.wf (by omega) (p7 c28 c41 c51) (p8 c28 c41 c51) (p9 c28 c41 c51)) (go_I ?_)
          exact V_top (if_neg c51) hJ6
        · refine V_iload_n 3 K.1 dX9_poll_54 rfl rfl ?_
          refine V_iload 6 K.1 dX9_poll_55 rfl ?_
          refine V_ishr K.1 dX9_poll_57 ?_
          refine V_iconst (v := 1) K.1 dX9_poll_58 (by decide) ?_
          refine V_iand K.1 dX9_poll_59 ?_
          refine V_iconst (v := 1) K.1 dX9_poll_60 (by decide) ?_
          refine V_icmp_ne (tgt := 68) K.1 dX9_poll_61 (by decide) (fun c61 => ?_) (fun c61 => ?_)
          · refine V_iconst (v := 0) K.1 dX9_poll_68 (by decide) ?_
            refine V_goto (tgt := 83) K.1 dX9_poll_69 (by decide) ?_
            exact V_top ((if_pos c51).trans (if_neg c61)) hJ6
          · refine V_iconst (v := 1) K.1 dX9_poll_64 (by decide) ?_
            refine V_goto (tgt := 83) K.1 dX9_poll_65 (by decide) ?_
            exact V_top ((if_pos c51).trans (if_pos c61)) hJ6
      refine V_istore (L' := [(0, .ref (ω.2.2.1 35)), (1, .int x1), (2, .int x2), (3, .int x3), (4, .int x4), (5, .int x5), (6, .int x6), (7, .int (if (((x2 >>> (x6 &&& 31)) &&& (1 : Int32)) = (1 : Int32)) then (if (((x3 >>> (x6 &&& 31)) &&& (1 : Int32)) = (1 : Int32)) then (1 : Int32) else (0 : Int32)) else (if ((σ.2.1 39 (x6).toNatClampNeg) = 0) then (if ((((σ.2.1 40 (x6).toNatClampNeg) >>> (x1 &&& 31)) &&& (1 : Int32)) = (1 : Int32)) then (1 : Int32) else (0 : Int32)) else (if (x4 = x5) then (if ((((σ.2.1 40 (x6).toNatClampNeg) >>> (x1 &&& 31)) &&& (1 : Int32)) = (1 : Int32)) then (1 : Int32) else (0 : Int32)) else (if ((σ.2.1 39 (x6).toNatClampNeg) = (1 : Int32)) then (if (x4 ≤ x5) then (0 : Int32) else (1 : Int32)) else (if (x5 ≤ x4) then (0 : Int32) else (1 : Int32)))))))]) K.1 dX9_poll_83 (by decide) rfl ?_
      exact (k10 c28 c41)
set_option maxRecDepth 20000 in
theorem R_X9_poll_85 {ω : WT} {κ : KT} {l : Launch} {d : Nat} {post : Option Value → St → Prop} {σ : St} {x1 x2 x3 x4 x5 x6 x7 : Int32}  (K : Cm ω κ l yX9_poll cX9_poll 9 d none post)
    (k4 : V ω κ 22 [(0, .ref (ω.2.2.1 35)), (1, .int x1), (2, .int x2), (3, .int x3), (4, .int (x4 + (if (x7 = 0) then (0 : Int32) else (1 : Int32)))), (5, .int (x5 + (if (x7 = 0) then (1 : Int32) else (0 : Int32)))), (6, .int (x6 + 1))] [] (pS σ 2264 ((σ.1 2264) ||| (if (x7 = 0) then (0 : Int32) else ((1 : Int32) <<< (x6 &&& 31)))))) :
    V ω κ 85 [(0, .ref (ω.2.2.1 35)), (1, .int x1), (2, .int x2), (3, .int x3), (4, .int x4), (5, .int x5), (6, .int x6), (7, .int x7)] [] σ := by
  refine V_aload_n 0 K.1 dX9_poll_85 rfl rfl ?_
  refine V_dup K.1 dX9_poll_86 rfl ?_
  refine V_get (v := .int (σ.1 2264)) K.1 dX9_poll_87 rfl rfl fw_X9_173 rfl rfl ?_
  refine V_iload 7 K.1 dX9_poll_90 rfl ?_
  refine V_join (J := 103) (S := [.int (σ.1 2264), .ref (ω.2.2.1 35)]) (v := .int (if (x7 = 0) then (0 : Int32) else ((1 : Int32) <<< (x6 &&& 31)))) (fun hJ1 => ?_) ?_
  · refine V_if_eq (tgt := 102) K.1 dX9_poll_92 (by decide) (fun c92 => ?_) (fun c92 => ?_)
    · refine V_iconst (v := 0) K.1 dX9_poll_102 (by decide) ?_
      exact V_top (if_pos c92) hJ1
    · refine V_iconst (v := 1) K.1 dX9_poll_95 (by decide) ?_
      refine V_iload 6 K.1 dX9_poll_96 rfl ?_
      refine V_ishl K.1 dX9_poll_98 ?_
      refine V_goto (tgt := 103) K.1 dX9_poll_99 (by decide) ?_
      exact V_top (if_neg c92) hJ1
  refine V_ior K.1 dX9_poll_103 ?_
  refine V_putI (key := 2264) K.1 dX9_poll_104 rfl rfl fw_X9_173 pw_X9_24 rfl rfl rfl rfl ?_
  refine V_iload 4 K.1 dX9_poll_107 rfl ?_
  refine V_iload 7 K.1 dX9_poll_109 rfl ?_
  refine V_join (J := 119) (S := [.int x4]) (v := .int (if (x7 = 0) then (0 : Int32) else (1 : Int32))) (fun hJ2 => ?_) ?_
  · refine V_if_eq (tgt := 118) K.1 dX9_poll_111 (by decide) (fun c111 => ?_) (fun c111 => ?_)
    · refine V_iconst (v := 0) K.1 dX9_poll_118 (by decide) ?_
      exact V_top (if_pos c111) hJ2
    · refine V_iconst (v := 1) K.1 dX9_poll_114 (by decide) ?_
      refine V_goto (tgt := 119) K.1 dX9_poll_115 (by decide) ?_
      exact V_top (if_neg c111) hJ2
  refine V_iadd K.1 dX9_poll_119 ?_
  refine V_istore (L' := [(0, .ref (ω.2.2.1 35)), (1, .int x1), (2, .int x2), (3, .int x3), (4, .int (x4 + (if (x7 = 0) then (0 : Int32) else (1 : Int32)))), (5, .int x5), (6, .int x6), (7, .int x7)]) K.1 dX9_poll_120 (by decide) rfl ?_
  refine V_iload 5 K.1 dX9_poll_122 rfl ?_
  refine V_iload 7 K.1 dX9_poll_124 rfl ?_
  refine V_join (J := 134) (S := [.int x5]) (v := .int (if (x7 = 0) then (1 : Int32) else (0 : Int32))) (fun hJ3 => ?_) ?_
  · refine V_if_eq (tgt := 133) K.1 dX9_poll_126 (by decide) (fun c126 => ?_) (fun c126 => ?_)
    · refine V_iconst (v := 1) K.1 dX9_poll_133 (by decide) ?_
      exact V_top (if_pos c126) hJ3
    · refine V_iconst (v := 0) K.1 dX9_poll_129 (by decide) ?_
      refine V_goto (tgt := 134) K.1 dX9_poll_130 (by decide) ?_
      exact V_top (if_neg c126) hJ3
  refine V_iadd K.1 dX9_poll_134 ?_
  refine V_istore (L' := [(0, .ref (ω.2.2.1 35)), (1, .int x1), (2, .int x2), (3, .int x3), (4, .int (x4 + (if (x7 = 0) then (0 : Int32) else (1 : Int32)))), (5, .int (x5 + (if (x7 = 0) then (1 : Int32) else (0 : Int32)))), (6, .int x6), (7, .int x7)]) K.1 dX9_poll_135 (by decide) rfl ?_
  refine V_iinc (v := (x6 + 1)) (L' := [(0, .ref (ω.2.2.1 35)), (1, .int x1), (2, .int x2), (3, .int x3), (4, .int (x4 + (if (x7 = 0) then (0 : Int32) else (1 : Int32)))), (5, .int (x5 + (if (x7 = 0) then (1 : Int32) else (0 : Int32)))), (6, .int (x6 + 1)), (7, .int x7)]) 6 K.1 dX9_poll_137 rfl rfl (by decide) rfl ?_
  refine V_goto (tgt := 22) K.1 dX9_poll_140 (by decide) ?_
  exact V_sub [0, 1, 2, 3, 4, 5, 6] rfl k4
set_option maxRecDepth 20000 in
theorem R_X9_poll_219 {ω : WT} {κ : KT} {l : Launch} {d : Nat} {post : Option Value → St → Prop} {σ : St} {x6 x7 x8 : Int32}  (K : Cm ω κ l yX9_poll cX9_poll 9 d none post)
    (k3 : post none (pS (pS σ 2266 (if ((σ.1 2261) = 0) then x6 else (if ((σ.1 2261) = (1 : Int32)) then x7 else (if ((σ.1 2261) = (2 : Int32)) then x8 else ((2 : Int32) * x6))))) 2266 (if ((σ.1 2265) = (-5 : Int32)) then (0 : Int32) else (if ((if ((σ.1 2261) = 0) then x6 else (if ((σ.1 2261) = (1 : Int32)) then x7 else (if ((σ.1 2261) = (2 : Int32)) then x8 else ((2 : Int32) * x6)))) ≤ (σ.1 2245)) then (if ((σ.1 2261) = 0) then x6 else (if ((σ.1 2261) = (1 : Int32)) then x7 else (if ((σ.1 2261) = (2 : Int32)) then x8 else ((2 : Int32) * x6)))) else (σ.1 2245))))) :
    V ω κ 219 [(0, .ref (ω.2.2.1 35)), (6, .int x6), (7, .int x7), (8, .int x8)] [] σ := by
  refine V_aload_n 0 K.1 dX9_poll_219 rfl rfl ?_
  refine V_aload_n 0 K.1 dX9_poll_220 rfl rfl ?_
  refine V_get (v := .int (σ.1 2261)) K.1 dX9_poll_221 rfl rfl fw_X9_164 rfl rfl ?_
  refine V_join (J := 262) (S := [.ref (ω.2.2.1 35)]) (v := .int (if ((σ.1 2261) = 0) then x6 else (if ((σ.1 2261) = (1 : Int32)) then x7 else (if ((σ.1 2261) = (2 : Int32)) then x8 else ((2 : Int32) * x6))))) (fun hJ1 => ?_) ?_
  · refine V_if_ne (tgt := 232) K.1 dX9_poll_224 (by decide) (fun c224 => ?_) (fun c224 => ?_)
    · refine V_aload_n 0 K.1 dX9_poll_232 rfl rfl ?_
      refine V_get (v := .int (σ.1 2261)) K.1 dX9_poll_233 rfl rfl fw_X9_164 rfl rfl ?_
      refine V_iconst (v := 1) K.1 dX9_poll_236 (by decide) ?_
      refine V_icmp_ne (tgt := 245) K.1 dX9_poll_237 (by decide) (fun c237 => ?_) (fun c237 => ?_)
      · refine V_aload_n 0 K.1 dX9_poll_245 rfl rfl ?_
        refine V_get (v := .int (σ.1 2261)) K.1 dX9_poll_246 rfl rfl fw_X9_164 rfl rfl ?_
        refine V_iconst (v := 2) K.1 dX9_poll_249 (by decide) ?_
        refine V_icmp_ne (tgt := 258) K.1 dX9_poll_250 (by decide) (fun c250 => ?_) (fun c250 => ?_)
        · refine V_iconst (v := 2) K.1 dX9_poll_258 (by decide) ?_
          refine V_iload 1 K.1 dX9_poll_259 rfl ?_
          refine V_imul K.1 dX9_poll_261 ?_
          exact V_top (((if_neg c224).trans (if_neg c237)).trans (if_neg c250)) hJ1
        · refine V_iload 3 K.1 dX9_poll_253 rfl ?_
          refine V_goto (tgt := 262) K.1 dX9_poll_255 (by decide) ?_
          exact V_top (((if_neg c224).trans (if_neg c237)).trans (if_pos c250)) hJ1
      · refine V_iload 2 K.1 dX9_poll_240 rfl ?_
        refine V_goto (tgt := 262) K.1 dX9_poll_242 (by decide) ?_
        exact V_top ((if_neg c224).trans (if_pos c237)) hJ1
    · refine V_iload 1 K.1 dX9_poll_227 rfl ?_
      refine V_goto (tgt := 262) K.1 dX9_poll_229 (by decide) ?_
      exact V_top (if_pos c224) hJ1
  refine V_putI (key := 2266) K.1 dX9_poll_262 rfl rfl fw_X9_183 pw_X9_26 rfl rfl rfl rfl ?_
  refine V_aload_n 0 K.1 dX9_poll_265 rfl rfl ?_
  refine V_aload_n 0 K.1 dX9_poll_266 rfl rfl ?_
  refine V_get (v := .int (σ.1 2265)) K.1 dX9_poll_267 rfl rfl fw_X9_180 rfl rfl ?_
  refine V_bipush (v := -5) K.1 dX9_poll_270 (by decide) ?_
  refine V_join (J := 301) (S := [.ref (ω.2.2.1 35)]) (v := .int (if ((σ.1 2265) = (-5 : Int32)) then (0 : Int32) else (if ((if ((σ.1 2261) = 0) then x6 else (if ((σ.1 2261) = (1 : Int32)) then x7 else (if ((σ.1 2261) = (2 : Int32)) then x8 else ((2 : Int32) * x6)))) ≤ (σ.1 2245)) then (if ((σ.1 2261) = 0) then x6 else (if ((σ.1 2261) = (1 : Int32)) then x7 else (if ((σ.1 2261) = (2 : Int32)) then x8 else ((2 : Int32) * x6)))) else (σ.1 2245)))) (fun hJ2 => ?_) ?_
  · refine V_icmp_ne (tgt := 279) K.1 dX9_poll_272 (by decide) (fun c272 => ?_) (fun c272 => ?_)
    · refine V_aload_n 0 K.1 dX9_poll_279 rfl rfl ?_
      refine V_get (v := .int (if ((σ.1 2261) = 0) then x6 else (if ((σ.1 2261) = (1 : Int32)) then x7 else (if ((σ.1 2261) = (2 : Int32)) then x8 else ((2 : Int32) * x6))))) K.1 dX9_poll_280 rfl rfl fw_X9_183 rfl rfl ?_
      refine V_aload_n 0 K.1 dX9_poll_283 rfl rfl ?_
      refine V_get (v := .int (σ.1 2245)) K.1 dX9_poll_284 rfl rfl fw_X9_91 rfl rfl ?_
      refine V_icmp_le (tgt := 297) K.1 dX9_poll_287 (by decide) (fun c287 => ?_) (fun c287 => ?_)
      · refine V_aload_n 0 K.1 dX9_poll_297 rfl rfl ?_
        refine V_get (v := .int (if ((σ.1 2261) = 0) then x6 else (if ((σ.1 2261) = (1 : Int32)) then x7 else (if ((σ.1 2261) = (2 : Int32)) then x8 else ((2 : Int32) * x6))))) K.1 dX9_poll_298 rfl rfl fw_X9_183 rfl rfl ?_
        exact V_top ((if_neg c272).trans (if_pos c287)) hJ2
      · refine V_aload_n 0 K.1 dX9_poll_290 rfl rfl ?_
        refine V_get (v := .int (σ.1 2245)) K.1 dX9_poll_291 rfl rfl fw_X9_91 rfl rfl ?_
        refine V_goto (tgt := 301) K.1 dX9_poll_294 (by decide) ?_
        exact V_top ((if_neg c272).trans (if_neg c287)) hJ2
    · refine V_iconst (v := 0) K.1 dX9_poll_275 (by decide) ?_
      refine V_goto (tgt := 301) K.1 dX9_poll_276 (by decide) ?_
      exact V_top (if_pos c272) hJ2
  refine V_putI (key := 2266) K.1 dX9_poll_301 rfl rfl fw_X9_183 pw_X9_26 rfl rfl rfl rfl ?_
  exact V_vret K dX9_poll_304 k3
