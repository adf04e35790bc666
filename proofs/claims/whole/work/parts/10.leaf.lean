set_option maxRecDepth 20000 in
theorem R_X9_fails_0 {ω : WT} {κ : KT} {l : Launch} {d : Nat} {post : Option Value → St → Prop} {σ : St} {x1 : Int32}  (K : Cm ω κ l yX9_fails cX9_fails 2 d (some .int) post)
    (k1 : post (some (.int ((-10 : Int32) - x1))) (pS σ 2240 x1)) :
    V ω κ 0 [(0, .ref (ω.2.2.1 35)), (1, .int x1)] [] σ := by
  refine V_aload_n 0 K.1 dX9_fails_0 rfl rfl ?_
  refine V_iload_n 1 K.1 dX9_fails_1 rfl rfl ?_
  refine V_putI (key := 2240) K.1 dX9_fails_2 rfl rfl fw_X9_81 pw_X9_0 rfl rfl rfl rfl ?_
  refine V_bipush (v := -10) K.1 dX9_fails_5 (by decide) ?_
  refine V_iload_n 1 K.1 dX9_fails_7 rfl rfl ?_
  refine V_isub K.1 dX9_fails_8 ?_
  exact V_iret K dX9_fails_9 k1
theorem m_X9_fails {ω : WT} {l : Launch} {d : Nat} {σ : St} {x1 : Int32}  (hWf : Wf ω) (hd : 0 ≤ d) :
    Sp ω l yX9_fails cX9_fails 2 (some .int) d [.ref (ω.2.2.1 35), .int x1] σ (rI ((-10 : Int32) - x1) (pS σ 2240 x1)) :=
  Sp.of (by decide) (Nat.le_of_ble_eq_true rfl) hWf (fun κ K => R_X9_fails_0  K ⟨rfl, rfl⟩)
set_option maxRecDepth 20000 in
theorem R_X9_lost_0 {ω : WT} {κ : KT} {l : Launch} {d : Nat} {post : Option Value → St → Prop} {σ : St} {x1 : Int32}  (K : Cm ω κ l yX9_lost cX9_lost 2 d (some .long) post)
    (k1 : post (some (.long (-9223372036854775808 : Int64))) (pS σ 2240 x1)) :
    V ω κ 0 [(0, .ref (ω.2.2.1 35)), (1, .int x1)] [] σ := by
  refine V_aload_n 0 K.1 dX9_lost_0 rfl rfl ?_
  refine V_iload_n 1 K.1 dX9_lost_1 rfl rfl ?_
  refine V_putI (key := 2240) K.1 dX9_lost_2 rfl rfl fw_X9_81 pw_X9_0 rfl rfl rfl rfl ?_
  refine V_ldc2_w K.1 dX9_lost_5 cn_X9_85 ?_
  exact V_lret K dX9_lost_8 k1
theorem m_X9_lost {ω : WT} {l : Launch} {d : Nat} {σ : St} {x1 : Int32}  (hWf : Wf ω) (hd : 0 ≤ d) :
    Sp ω l yX9_lost cX9_lost 2 (some .long) d [.ref (ω.2.2.1 35), .int x1] σ (rJ (-9223372036854775808 : Int64) (pS σ 2240 x1)) :=
  Sp.of (by decide) (Nat.le_of_ble_eq_true rfl) hWf (fun κ K => R_X9_lost_0  K ⟨rfl, rfl⟩)
set_option maxRecDepth 20000 in
theorem R_X9_within_0 {ω : WT} {κ : KT} {l : Launch} {d : Nat} {post : Option Value → St → Prop} {σ : St} {x0 x1 x2 : Int32}  (K : Cm ω κ l yX9_within cX9_within 3 d (some .boolean) post)
    (k2 : post (some (.int (if (x0 < x1) then (0 : Int32) else (if (x2 < x0) then (0 : Int32) else (1 : Int32))))) σ) :
    V ω κ 0 [(0, .int x0), (1, .int x1), (2, .int x2)] [] σ := by
  refine V_iload_n 0 K.1 dX9_within_0 rfl rfl ?_
  refine V_iload_n 1 K.1 dX9_within_1 rfl rfl ?_
  refine V_join (J := 15) (S := []) (v := .int (if (x0 < x1) then (0 : Int32) else (if (x2 < x0) then (0 : Int32) else (1 : Int32)))) (fun hJ1 => ?_) ?_
  · refine V_icmp_lt (tgt := 14) K.1 dX9_within_2 (by decide) (fun c2 => ?_) (fun c2 => ?_)
    · refine V_iconst (v := 0) K.1 dX9_within_14 (by decide) ?_
      exact V_top (if_pos c2) hJ1
    · refine V_iload_n 0 K.1 dX9_within_5 rfl rfl ?_
      refine V_iload_n 2 K.1 dX9_within_6 rfl rfl ?_
      refine V_icmp_gt (tgt := 14) K.1 dX9_within_7 (by decide) (fun c7 => ?_) (fun c7 => ?_)
      · refine V_iconst (v := 0) K.1 dX9_within_14 (by decide) ?_
        exact V_top ((if_neg c2).trans (if_pos c7)) hJ1
      · refine V_iconst (v := 1) K.1 dX9_within_10 (by decide) ?_
        refine V_goto (tgt := 15) K.1 dX9_within_11 (by decide) ?_
        exact V_top ((if_neg c2).trans (if_neg c7)) hJ1
  exact V_zret K dX9_within_15 (by (repeat' split) <;> first | exact Or.inl rfl | exact Or.inr rfl) k2
theorem m_X9_within {ω : WT} {l : Launch} {d : Nat} {σ : St} {x0 x1 x2 : Int32}  (hWf : Wf ω) (hd : 0 ≤ d) :
    Sp ω l yX9_within cX9_within 3 (some .boolean) d [.int x0, .int x1, .int x2] σ (rI (if (x0 < x1) then (0 : Int32) else (if (x2 < x0) then (0 : Int32) else (1 : Int32))) σ) :=
  Sp.of (by decide) (Nat.le_of_ble_eq_true rfl) hWf (fun κ K => R_X9_within_0  K ⟨rfl, rfl⟩)
set_option maxRecDepth 20000 in
theorem R_X9_isSheet_0 {ω : WT} {κ : KT} {l : Launch} {d : Nat} {post : Option Value → St → Prop} {σ : St} {x0 : Int32}  (K : Cm ω κ l yX9_isSheet cX9_isSheet 1 d (some .boolean) post) (hdp : 1 ≤ d)
    (k1 : post (some (.int (if (x0 < (0 : Int32)) then (0 : Int32) else (if ((3 : Int32) < x0) then (0 : Int32) else (1 : Int32))))) σ) :
    V ω κ 0 [(0, .int x0)] [] σ := by
  refine V_iload_n 0 K.1 dX9_isSheet_0 rfl rfl ?_
  refine V_iconst (v := 0) K.1 dX9_isSheet_1 (by decide) ?_
  refine V_iconst (v := 3) K.1 dX9_isSheet_2 (by decide) ?_
  refine V_callS (d' := d - 1) (As := [.int x0, .int (0 : Int32), .int (3 : Int32)]) K.1 dX9_isSheet_3 cw_X9_87 rfl (by omega) rfl (by simp [Value.category]) (m_X9_within K.1.wf (by omega)) (go_I ?_)
  exact V_zret K dX9_isSheet_6 (by (repeat' split) <;> first | exact Or.inl rfl | exact Or.inr rfl) k1
theorem m_X9_isSheet {ω : WT} {l : Launch} {d : Nat} {σ : St} {x0 : Int32}  (hWf : Wf ω) (hd : 1 ≤ d) :
    Sp ω l yX9_isSheet cX9_isSheet 1 (some .boolean) d [.int x0] σ (rI (if (x0 < (0 : Int32)) then (0 : Int32) else (if ((3 : Int32) < x0) then (0 : Int32) else (1 : Int32))) σ) :=
  Sp.of (by decide) (Nat.le_of_ble_eq_true rfl) hWf (fun κ K => R_X9_isSheet_0  K hd ⟨rfl, rfl⟩)
set_option maxRecDepth 20000 in
theorem R_X9_isSort_0 {ω : WT} {κ : KT} {l : Launch} {d : Nat} {post : Option Value → St → Prop} {σ : St} {x0 : Int32}  (K : Cm ω κ l yX9_isSort cX9_isSort 1 d (some .boolean) post) (hdp : 1 ≤ d)
    (k1 : post (some (.int (if (x0 < (0 : Int32)) then (0 : Int32) else (if ((2 : Int32) < x0) then (0 : Int32) else (1 : Int32))))) σ) :
    V ω κ 0 [(0, .int x0)] [] σ := by
  refine V_iload_n 0 K.1 dX9_isSort_0 rfl rfl ?_
  refine V_iconst (v := 0) K.1 dX9_isSort_1 (by decide) ?_
  refine V_iconst (v := 2) K.1 dX9_isSort_2 (by decide) ?_
  refine V_callS (d' := d - 1) (As := [.int x0, .int (0 : Int32), .int (2 : Int32)]) K.1 dX9_isSort_3 cw_X9_87 rfl (by omega) rfl (by simp [Value.category]) (m_X9_within K.1.wf (by omega)) (go_I ?_)
  exact V_zret K dX9_isSort_6 (by (repeat' split) <;> first | exact Or.inl rfl | exact Or.inr rfl) k1
theorem m_X9_isSort {ω : WT} {l : Launch} {d : Nat} {σ : St} {x0 : Int32}  (hWf : Wf ω) (hd : 1 ≤ d) :
    Sp ω l yX9_isSort cX9_isSort 1 (some .boolean) d [.int x0] σ (rI (if (x0 < (0 : Int32)) then (0 : Int32) else (if ((2 : Int32) < x0) then (0 : Int32) else (1 : Int32))) σ) :=
  Sp.of (by decide) (Nat.le_of_ble_eq_true rfl) hWf (fun κ K => R_X9_isSort_0  K hd ⟨rfl, rfl⟩)
set_option maxRecDepth 20000 in
theorem R_X9_against_0 {ω : WT} {κ : KT} {l : Launch} {d : Nat} {post : Option Value → St → Prop} {σ : St} {x1 x2 x3 x4 : Int32}  (K : Cm ω κ l yX9_against cX9_against 5 d (some .int) post)
    (b1 : vp_in x1 4)
    (b2 : ((σ.2.1 36 (x1).toNatClampNeg) = (-9 : Int32)) → vp_in x1 4)
    (b4 : ((σ.2.1 36 (x1).toNatClampNeg) = (-9 : Int32)) → ¬ ((σ.2.1 36 (x1).toNatClampNeg) = (-9 : Int32)) → (0 ≤ x4) → ¬ (x3 < 0) → vp_in x1 4)
    (b5 : ((σ.2.1 36 (x1).toNatClampNeg) = (-9 : Int32)) → ¬ ((σ.2.1 36 (x1).toNatClampNeg) = (-9 : Int32)) → (0 ≤ x4) → ¬ (x3 < 0) → ¬ ((σ.2.1 37 (x1).toNatClampNeg) < x3) → vp_in x1 4)
    (k6 : ((σ.2.1 36 (x1).toNatClampNeg) = (-9 : Int32)) → ¬ ((σ.2.1 36 (x1).toNatClampNeg) = (-9 : Int32)) → (0 ≤ x4) → post (some (.int (if (x3 < 0) then (3 : Int32) else (if ((σ.2.1 37 (x1).toNatClampNeg) < x3) then (3 : Int32) else (if (x4 ≤ ((σ.2.1 37 (x1).toNatClampNeg) - x3)) then (0 : Int32) else (3 : Int32)))))) σ)
    (k7 : ((σ.2.1 36 (x1).toNatClampNeg) = (-9 : Int32)) → ¬ ((σ.2.1 36 (x1).toNatClampNeg) = (-9 : Int32)) → ¬ (0 ≤ x4) → post (some (.int (4 : Int32))) σ)
    (k8 : ((σ.2.1 36 (x1).toNatClampNeg) = (-9 : Int32)) → ((σ.2.1 36 (x1).toNatClampNeg) = (-9 : Int32)) → post (some (.int (1 : Int32))) σ)
    (b9 : ¬ ((σ.2.1 36 (x1).toNatClampNeg) = (-9 : Int32)) → vp_in x1 4)
    (b10 : ¬ ((σ.2.1 36 (x1).toNatClampNeg) = (-9 : Int32)) → ((σ.2.1 36 (x1).toNatClampNeg) = x2) → vp_in x1 4)
    (b12 : ¬ ((σ.2.1 36 (x1).toNatClampNeg) = (-9 : Int32)) → ((σ.2.1 36 (x1).toNatClampNeg) = x2) → ¬ ((σ.2.1 36 (x1).toNatClampNeg) = (-9 : Int32)) → (0 ≤ x4) → ¬ (x3 < 0) → vp_in x1 4)
    (b13 : ¬ ((σ.2.1 36 (x1).toNatClampNeg) = (-9 : Int32)) → ((σ.2.1 36 (x1).toNatClampNeg) = x2) → ¬ ((σ.2.1 36 (x1).toNatClampNeg) = (-9 : Int32)) → (0 ≤ x4) → ¬ (x3 < 0) → ¬ ((σ.2.1 37 (x1).toNatClampNeg) < x3) → vp_in x1 4)
    (k14 : ¬ ((σ.2.1 36 (x1).toNatClampNeg) = (-9 : Int32)) → ((σ.2.1 36 (x1).toNatClampNeg) = x2) → ¬ ((σ.2.1 36 (x1).toNatClampNeg) = (-9 : Int32)) → (0 ≤ x4) → post (some (.int (if (x3 < 0) then (3 : Int32) else (if ((σ.2.1 37 (x1).toNatClampNeg) < x3) then (3 : Int32) else (if (x4 ≤ ((σ.2.1 37 (x1).toNatClampNeg) - x3)) then (0 : Int32) else (3 : Int32)))))) σ)
    (k15 : ¬ ((σ.2.1 36 (x1).toNatClampNeg) = (-9 : Int32)) → ((σ.2.1 36 (x1).toNatClampNeg) = x2) → ¬ ((σ.2.1 36 (x1).toNatClampNeg) = (-9 : Int32)) → ¬ (0 ≤ x4) → post (some (.int (4 : Int32))) σ)
    (k16 : ¬ ((σ.2.1 36 (x1).toNatClampNeg) = (-9 : Int32)) → ((σ.2.1 36 (x1).toNatClampNeg) = x2) → ((σ.2.1 36 (x1).toNatClampNeg) = (-9 : Int32)) → post (some (.int (1 : Int32))) σ)
    (k17 : ¬ ((σ.2.1 36 (x1).toNatClampNeg) = (-9 : Int32)) → ¬ ((σ.2.1 36 (x1).toNatClampNeg) = x2) → post (some (.int (2 : Int32))) σ) :
    V ω κ 0 [(0, .ref (ω.2.2.1 35)), (1, .int x1), (2, .int x2), (3, .int x3), (4, .int x4)] [] σ := by
  refine V_aload_n 0 K.1 dX9_against_0 rfl rfl ?_
  refine V_get (v := .ref (ω.2.2.1 36)) K.1 dX9_against_1 rfl rfl fw_X9_9 rfl rfl ?_
  refine V_iload_n 1 K.1 dX9_against_4 rfl rfl ?_
  refine V_iaload (v := (σ.2.1 36 (x1).toNatClampNeg)) K.1 dX9_against_5 rfl b1 rfl ?_
  refine V_bipush (v := -9) K.1 dX9_against_6 (by decide) ?_
  refine V_icmp_eq (tgt := 23) K.1 dX9_against_8 (by decide) (fun c8 => ?_) (fun c8 => ?_)
  · refine V_aload_n 0 K.1 dX9_against_23 rfl rfl ?_
    refine V_get (v := .ref (ω.2.2.1 36)) K.1 dX9_against_24 rfl rfl fw_X9_9 rfl rfl ?_
    refine V_iload_n 1 K.1 dX9_against_27 rfl rfl ?_
    refine V_iaload (v := (σ.2.1 36 (x1).toNatClampNeg)) K.1 dX9_against_28 rfl (b2 c8) rfl ?_
    refine V_bipush (v := -9) K.1 dX9_against_29 (by decide) ?_
    refine V_icmp_ne (tgt := 36) K.1 dX9_against_31 (by decide) (fun c31 => ?_) (fun c31 => ?_)
    · refine V_iload 4 K.1 dX9_against_36 rfl ?_
      refine V_if_ge (tgt := 43) K.1 dX9_against_38 (by decide) (fun c38 => ?_) (fun c38 => ?_)
      · refine V_iload_n 3 K.1 dX9_against_43 rfl rfl ?_
        refine V_join (J := 75) (S := []) (v := .int (if (x3 < 0) then (3 : Int32) else (if ((σ.2.1 37 (x1).toNatClampNeg) < x3) then (3 : Int32) else (if (x4 ≤ ((σ.2.1 37 (x1).toNatClampNeg) - x3)) then (0 : Int32) else (3 : Int32))))) (fun hJ3 => ?_) ?_
        · refine V_if_lt (tgt := 70) K.1 dX9_against_44 (by decide) (fun c44 => ?_) (fun c44 => ?_)
          · refine V_iconst (v := 3) K.1 dX9_against_70 (by decide) ?_
            refine V_goto (tgt := 75) K.1 dX9_against_71 (by decide) ?_
            exact V_top (if_pos c44) hJ3
          · refine V_iload_n 3 K.1 dX9_against_47 rfl rfl ?_
            refine V_aload_n 0 K.1 dX9_against_48 rfl rfl ?_
            refine V_get (v := .ref (ω.2.2.1 37)) K.1 dX9_against_49 rfl rfl fw_X9_13 rfl rfl ?_
            refine V_iload_n 1 K.1 dX9_against_52 rfl rfl ?_
            refine V_iaload (v := (σ.2.1 37 (x1).toNatClampNeg)) K.1 dX9_against_53 rfl (b4 c8 c31 c38 c44) rfl ?_
            refine V_icmp_gt (tgt := 70) K.1 dX9_against_54 (by decide) (fun c54 => ?_) (fun c54 => ?_)
            · refine V_iconst (v := 3) K.1 dX9_against_70 (by decide) ?_
              refine V_goto (tgt := 75) K.1 dX9_against_71 (by decide) ?_
              exact V_top ((if_neg c44).trans (if_pos c54)) hJ3
            · refine V_iload 4 K.1 dX9_against_57 rfl ?_
              refine V_aload_n 0 K.1 dX9_against_59 rfl rfl ?_
              refine V_get (v := .ref (ω.2.2.1 37)) K.1 dX9_against_60 rfl rfl fw_X9_13 rfl rfl ?_
              refine V_iload_n 1 K.1 dX9_against_63 rfl rfl ?_
              refine V_iaload (v := (σ.2.1 37 (x1).toNatClampNeg)) K.1 dX9_against_64 rfl (b5 c8 c31 c38 c44 c54) rfl ?_
              refine V_iload_n 3 K.1 dX9_against_65 rfl rfl ?_
              refine V_isub K.1 dX9_against_66 ?_
              refine V_icmp_le (tgt := 74) K.1 dX9_against_67 (by decide) (fun c67 => ?_) (fun c67 => ?_)
              · refine V_iconst (v := 0) K.1 dX9_against_74 (by decide) ?_
                exact V_top (((if_neg c44).trans (if_neg c54)).trans (if_pos c67)) hJ3
              · refine V_iconst (v := 3) K.1 dX9_against_70 (by decide) ?_
                refine V_goto (tgt := 75) K.1 dX9_against_71 (by decide) ?_
                exact V_top (((if_neg c44).trans (if_neg c54)).trans (if_neg c67)) hJ3
        exact V_iret K dX9_against_75 (k6 c8 c31 c38)
      · refine V_iconst (v := 4) K.1 dX9_against_41 (by decide) ?_
        exact V_iret K dX9_against_42 (k7 c8 c31 c38)
    · refine V_iconst (v := 1) K.1 dX9_against_34 (by decide) ?_
      exact V_iret K dX9_against_35 (k8 c8 c31)
  · refine V_aload_n 0 K.1 dX9_against_11 rfl rfl ?_
    refine V_get (v := .ref (ω.2.2.1 36)) K.1 dX9_against_12 rfl rfl fw_X9_9 rfl rfl ?_
    refine V_iload_n 1 K.1 dX9_against_15 rfl rfl ?_
    refine V_iaload (v := (σ.2.1 36 (x1).toNatClampNeg)) K.1 dX9_against_16 rfl (b9 c8) rfl ?_
    refine V_iload_n 2 K.1 dX9_against_17 rfl rfl ?_
    refine V_icmp_eq (tgt := 23) K.1 dX9_against_18 (by decide) (fun c18 => ?_) (fun c18 => ?_)
    · refine V_aload_n 0 K.1 dX9_against_23 rfl rfl ?_
      refine V_get (v := .ref (ω.2.2.1 36)) K.1 dX9_against_24 rfl rfl fw_X9_9 rfl rfl ?_
      refine V_iload_n 1 K.1 dX9_against_27 rfl rfl ?_
      refine V_iaload (v := (σ.2.1 36 (x1).toNatClampNeg)) K.1 dX9_against_28 rfl (b10 c8 c18) rfl ?_
      refine V_bipush (v := -9) K.1 dX9_against_29 (by decide) ?_
      refine V_icmp_ne (tgt := 36) K.1 dX9_against_31 (by decide) (fun c31 => ?_) (fun c31 => ?_)
      · refine V_iload 4 K.1 dX9_against_36 rfl ?_
        refine V_if_ge (tgt := 43) K.1 dX9_against_38 (by decide) (fun c38 => ?_) (fun c38 => ?_)
        · refine V_iload_n 3 K.1 dX9_against_43 rfl rfl ?_
          refine V_join (J := 75) (S := []) (v := .int (if (x3 < 0) then (3 : Int32) else (if ((σ.2.1 37 (x1).toNatClampNeg) < x3) then (3 : Int32) else (if (x4 ≤ ((σ.2.1 37 (x1).toNatClampNeg) - x3)) then (0 : Int32) else (3 : Int32))))) (fun hJ11 => ?_) ?_
          · refine V_if_lt (tgt := 70) K.1 dX9_against_44 (by decide) (fun c44 => ?_) (fun c44 => ?_)
            · refine V_iconst (v := 3) K.1 dX9_against_70 (by decide) ?_
              refine V_goto (tgt := 75) K.1 dX9_against_71 (by decide) ?_
              exact V_top (if_pos c44) hJ11
            · refine V_iload_n 3 K.1 dX9_against_47 rfl rfl ?_
              refine V_aload_n 0 K.1 dX9_against_48 rfl rfl ?_
              refine V_get (v := .ref (ω.2.2.1 37)) K.1 dX9_against_49 rfl rfl fw_X9_13 rfl rfl ?_
              refine V_iload_n 1 K.1 dX9_against_52 rfl rfl ?_
              refine V_iaload (v := (σ.2.1 37 (x1).toNatClampNeg)) K.1 dX9_against_53 rfl (b12 c8 c18 c31 c38 c44) rfl ?_
              refine V_icmp_gt (tgt := 70) K.1 dX9_against_54 (by decide) (fun c54 => ?_) (fun c54 => ?_)
              · refine V_iconst (v := 3) K.1 dX9_against_70 (by decide) ?_
                refine V_goto (tgt := 75) K.1 dX9_against_71 (by decide) ?_
                exact V_top ((if_neg c44).trans (if_pos c54)) hJ11
              · refine V_iload 4 K.1 dX9_against_57 rfl ?_
                refine V_aload_n 0 K.1 dX9_against_59 rfl rfl ?_
                refine V_get (v := .ref (ω.2.2.1 37)) K.1 dX9_against_60 rfl rfl fw_X9_13 rfl rfl ?_
                refine V_iload_n 1 K.1 dX9_against_63 rfl rfl ?_
                refine V_iaload (v := (σ.2.1 37 (x1).toNatClampNeg)) K.1 dX9_against_64 rfl (b13 c8 c18 c31 c38 c44 c54) rfl ?_
                refine V_iload_n 3 K.1 dX9_against_65 rfl rfl ?_
                refine V_isub K.1 dX9_against_66 ?_
                refine V_icmp_le (tgt := 74) K.1 dX9_against_67 (by decide) (fun c67 => ?_) (fun c67 => ?_)
                · refine V_iconst (v := 0) K.1 dX9_against_74 (by decide) ?_
                  exact V_top (((if_neg c44).trans (if_neg c54)).trans (if_pos c67)) hJ11
                · refine V_iconst (v := 3) K.1 dX9_against_70 (by decide) ?_
                  refine V_goto (tgt := 75) K.1 dX9_against_71 (by decide) ?_
                  exact V_top (((if_neg c44).trans (if_neg c54)).trans (if_neg c67)) hJ11
          exact V_iret K dX9_against_75 (k14 c8 c18 c31 c38)
        · refine V_iconst (v := 4) K.1 dX9_against_41 (by decide) ?_
          exact V_iret K dX9_against_42 (k15 c8 c18 c31 c38)
      · refine V_iconst (v := 1) K.1 dX9_against_34 (by decide) ?_
        exact V_iret K dX9_against_35 (k16 c8 c18 c31)
    · refine V_iconst (v := 2) K.1 dX9_against_21 (by decide) ?_
      exact V_iret K dX9_against_22 (k17 c8 c18)
theorem m_X9_against {ω : WT} {l : Launch} {d : Nat} {σ : St} {x1 x2 x3 x4 : Int32}  (hWf : Wf ω) (hd : 0 ≤ d) (b1 : vp_in x1 4) (b2 : ((σ.2.1 36 (x1).toNatClampNeg) = (-9 : Int32)) → vp_in x1 4) (b4 : ((σ.2.1 36 (x1).toNatClampNeg) = (-9 : Int32)) → ¬ ((σ.2.1 36 (x1).toNatClampNeg) = (-9 : Int32)) → (0 ≤ x4) → ¬ (x3 < 0) → vp_in x1 4) (b5 : ((σ.2.1 36 (x1).toNatClampNeg) = (-9 : Int32)) → ¬ ((σ.2.1 36 (x1).toNatClampNeg) = (-9 : Int32)) → (0 ≤ x4) → ¬ (x3 < 0) → ¬ ((σ.2.1 37 (x1).toNatClampNeg) < x3) → vp_in x1 4) (b9 : ¬ ((σ.2.1 36 (x1).toNatClampNeg) = (-9 : Int32)) → vp_in x1 4) (b10 : ¬ ((σ.2.1 36 (x1).toNatClampNeg) = (-9 : Int32)) → ((σ.2.1 36 (x1).toNatClampNeg) = x2) → vp_in x1 4) (b12 : ¬ ((σ.2.1 36 (x1).toNatClampNeg) = (-9 : Int32)) → ((σ.2.1 36 (x1).toNatClampNeg) = x2) → ¬ ((σ.2.1 36 (x1).toNatClampNeg) = (-9 : Int32)) → (0 ≤ x4) → ¬ (x3 < 0) → vp_in x1 4) (b13 : ¬ ((σ.2.1 36 (x1).toNatClampNeg) = (-9 : Int32)) → ((σ.2.1 36 (x1).toNatClampNeg) = x2) → ¬ ((σ.2.1 36 (x1).toNatClampNeg) = (-9 : Int32)) → (0 ≤ x4) → ¬ (x3 < 0) → ¬ ((σ.2.1 37 (x1).toNatClampNeg) < x3) → vp_in x1 4) :
    Sp ω l yX9_against cX9_against 5 (some .int) d [.ref (ω.2.2.1 35), .int x1, .int x2, .int x3, .int x4] σ (rI (if ((σ.2.1 36 (x1).toNatClampNeg) = (-9 : Int32)) then (if ((σ.2.1 36 (x1).toNatClampNeg) = (-9 : Int32)) then (1 : Int32) else (if (0 ≤ x4) then (if (x3 < 0) then (3 : Int32) else (if ((σ.2.1 37 (x1).toNatClampNeg) < x3) then (3 : Int32) else (if (x4 ≤ ((σ.2.1 37 (x1).toNatClampNeg) - x3)) then (0 : Int32) else (3 : Int32)))) else (4 : Int32))) else (if ((σ.2.1 36 (x1).toNatClampNeg) = x2) then (if ((σ.2.1 36 (x1).toNatClampNeg) = (-9 : Int32)) then (1 : Int32) else (if (0 ≤ x4) then (if (x3 < 0) then (3 : Int32) else (if ((σ.2.1 37 (x1).toNatClampNeg) < x3) then (3 : Int32) else (if (x4 ≤ ((σ.2.1 37 (x1).toNatClampNeg) - x3)) then (0 : Int32) else (3 : Int32)))) else (4 : Int32))) else (2 : Int32))) σ) :=
  Sp.of (by decide) (Nat.le_of_ble_eq_true rfl) hWf (fun κ K => R_X9_against_0  K b1 b2 b4 b5 (fun c8 c31 c38 => ⟨congrArg (fun z => some (Value.int z)) ((((if_pos c8).trans (if_neg c31)).trans (if_pos c38))).symm, rfl⟩) (fun c8 c31 c38 => ⟨congrArg (fun z => some (Value.int z)) ((((if_pos c8).trans (if_neg c31)).trans (if_neg c38))).symm, rfl⟩) (fun c8 c31 => ⟨congrArg (fun z => some (Value.int z)) (((if_pos c8).trans (if_pos c31))).symm, rfl⟩) b9 b10 b12 b13 (fun c8 c18 c31 c38 => ⟨congrArg (fun z => some (Value.int z)) (((((if_neg c8).trans (if_pos c18)).trans (if_neg c31)).trans (if_pos c38))).symm, rfl⟩) (fun c8 c18 c31 c38 => ⟨congrArg (fun z => some (Value.int z)) (((((if_neg c8).trans (if_pos c18)).trans (if_neg c31)).trans (if_neg c38))).symm, rfl⟩) (fun c8 c18 c31 => ⟨congrArg (fun z => some (Value.int z)) ((((if_neg c8).trans (if_pos c18)).trans (if_pos c31))).symm, rfl⟩) (fun c8 c18 => ⟨congrArg (fun z => some (Value.int z)) (((if_neg c8).trans (if_neg c18))).symm, rfl⟩))
set_option maxRecDepth 20000 in
theorem R_X9_isTown_0 {ω : WT} {κ : KT} {l : Launch} {d : Nat} {post : Option Value → St → Prop} {σ : St}  (K : Cm ω κ l yX9_isTown cX9_isTown 1 d (some .boolean) post)
    (k2 : post (some (.int (if ((σ.1 2245) ≤ 0) then (0 : Int32) else (1 : Int32)))) σ) :
    V ω κ 0 [(0, .ref (ω.2.2.1 35))] [] σ := by
  refine V_aload_n 0 K.1 dX9_isTown_0 rfl rfl ?_
  refine V_get (v := .int (σ.1 2245)) K.1 dX9_isTown_1 rfl rfl fw_X9_91 rfl rfl ?_
  refine V_join (J := 12) (S := []) (v := .int (if ((σ.1 2245) ≤ 0) then (0 : Int32) else (1 : Int32))) (fun hJ1 => ?_) ?_
  · refine V_if_le (tgt := 11) K.1 dX9_isTown_4 (by decide) (fun c4 => ?_) (fun c4 => ?_)
    · refine V_iconst (v := 0) K.1 dX9_isTown_11 (by decide) ?_
      exact V_top (if_pos c4) hJ1
    · refine V_iconst (v := 1) K.1 dX9_isTown_7 (by decide) ?_
      refine V_goto (tgt := 12) K.1 dX9_isTown_8 (by decide) ?_
      exact V_top (if_neg c4) hJ1
  exact V_zret K dX9_isTown_12 (by (repeat' split) <;> first | exact Or.inl rfl | exact Or.inr rfl) k2
theorem m_X9_isTown {ω : WT} {l : Launch} {d : Nat} {σ : St}  (hWf : Wf ω) (hd : 0 ≤ d) :
    Sp ω l yX9_isTown cX9_isTown 1 (some .boolean) d [.ref (ω.2.2.1 35)] σ (rI (if ((σ.1 2245) ≤ 0) then (0 : Int32) else (1 : Int32)) σ) :=
  Sp.of (by decide) (Nat.le_of_ble_eq_true rfl) hWf (fun κ K => R_X9_isTown_0  K ⟨rfl, rfl⟩)
set_option maxRecDepth 20000 in
theorem R_X9_isOne_0 {ω : WT} {κ : KT} {l : Launch} {d : Nat} {post : Option Value → St → Prop} {σ : St} {x1 : Int32}  (K : Cm ω κ l yX9_isOne cX9_isOne 2 d (some .boolean) post)
    (k2 : post (some (.int (if (x1 < 0) then (0 : Int32) else (if ((σ.1 2245) ≤ x1) then (0 : Int32) else (1 : Int32))))) σ) :
    V ω κ 0 [(0, .ref (ω.2.2.1 35)), (1, .int x1)] [] σ := by
  refine V_iload_n 1 K.1 dX9_isOne_0 rfl rfl ?_
  refine V_join (J := 17) (S := []) (v := .int (if (x1 < 0) then (0 : Int32) else (if ((σ.1 2245) ≤ x1) then (0 : Int32) else (1 : Int32)))) (fun hJ1 => ?_) ?_
  · refine V_if_lt (tgt := 16) K.1 dX9_isOne_1 (by decide) (fun c1 => ?_) (fun c1 => ?_)
    · refine V_iconst (v := 0) K.1 dX9_isOne_16 (by decide) ?_
      exact V_top (if_pos c1) hJ1
    · refine V_iload_n 1 K.1 dX9_isOne_4 rfl rfl ?_
      refine V_aload_n 0 K.1 dX9_isOne_5 rfl rfl ?_
      refine V_get (v := .int (σ.1 2245)) K.1 dX9_isOne_6 rfl rfl fw_X9_91 rfl rfl ?_
      refine V_icmp_ge (tgt := 16) K.1 dX9_isOne_9 (by decide) (fun c9 => ?_) (fun c9 => ?_)
      · refine V_iconst (v := 0) K.1 dX9_isOne_16 (by decide) ?_
        exact V_top ((if_neg c1).trans (if_pos c9)) hJ1
      · refine V_iconst (v := 1) K.1 dX9_isOne_12 (by decide) ?_
        refine V_goto (tgt := 17) K.1 dX9_isOne_13 (by decide) ?_
        exact V_top ((if_neg c1).trans (if_neg c9)) hJ1
  exact V_zret K dX9_isOne_17 (by (repeat' split) <;> first | exact Or.inl rfl | exact Or.inr rfl) k2
theorem m_X9_isOne {ω : WT} {l : Launch} {d : Nat} {σ : St} {x1 : Int32}  (hWf : Wf ω) (hd : 0 ≤ d) :
    Sp ω l yX9_isOne cX9_isOne 2 (some .boolean) d [.ref (ω.2.2.1 35), .int x1] σ (rI (if (x1 < 0) then (0 : Int32) else (if ((σ.1 2245) ≤ x1) then (0 : Int32) else (1 : Int32))) σ) :=
  Sp.of (by decide) (Nat.le_of_ble_eq_true rfl) hWf (fun κ K => R_X9_isOne_0  K ⟨rfl, rfl⟩)
set_option maxRecDepth 20000 in
theorem R_X9_isMatter_0 {ω : WT} {κ : KT} {l : Launch} {d : Nat} {post : Option Value → St → Prop} {σ : St} {x1 : Int32}  (K : Cm ω κ l yX9_isMatter cX9_isMatter 2 d (some .boolean) post)
    (k2 : post (some (.int (if (x1 < 0) then (0 : Int32) else (if ((σ.1 2246) ≤ x1) then (0 : Int32) else (1 : Int32))))) σ) :
    V ω κ 0 [(0, .ref (ω.2.2.1 35)), (1, .int x1)] [] σ := by
  refine V_iload_n 1 K.1 dX9_isMatter_0 rfl rfl ?_
  refine V_join (J := 17) (S := []) (v := .int (if (x1 < 0) then (0 : Int32) else (if ((σ.1 2246) ≤ x1) then (0 : Int32) else (1 : Int32)))) (fun hJ1 => ?_) ?_
  · refine V_if_lt (tgt := 16) K.1 dX9_isMatter_1 (by decide) (fun c1 => ?_) (fun c1 => ?_)
    · refine V_iconst (v := 0) K.1 dX9_isMatter_16 (by decide) ?_
      exact V_top (if_pos c1) hJ1
    · refine V_iload_n 1 K.1 dX9_isMatter_4 rfl rfl ?_
      refine V_aload_n 0 K.1 dX9_isMatter_5 rfl rfl ?_
      refine V_get (v := .int (σ.1 2246)) K.1 dX9_isMatter_6 rfl rfl fw_X9_94 rfl rfl ?_
      refine V_icmp_ge (tgt := 16) K.1 dX9_isMatter_9 (by decide) (fun c9 => ?_) (fun c9 => ?_)
      · refine V_iconst (v := 0) K.1 dX9_isMatter_16 (by decide) ?_
        exact V_top ((if_neg c1).trans (if_pos c9)) hJ1
      · refine V_iconst (v := 1) K.1 dX9_isMatter_12 (by decide) ?_
        refine V_goto (tgt := 17) K.1 dX9_isMatter_13 (by decide) ?_
        exact V_top ((if_neg c1).trans (if_neg c9)) hJ1
  exact V_zret K dX9_isMatter_17 (by (repeat' split) <;> first | exact Or.inl rfl | exact Or.inr rfl) k2
theorem m_X9_isMatter {ω : WT} {l : Launch} {d : Nat} {σ : St} {x1 : Int32}  (hWf : Wf ω) (hd : 0 ≤ d) :
    Sp ω l yX9_isMatter cX9_isMatter 2 (some .boolean) d [.ref (ω.2.2.1 35), .int x1] σ (rI (if (x1 < 0) then (0 : Int32) else (if ((σ.1 2246) ≤ x1) then (0 : Int32) else (1 : Int32))) σ) :=
  Sp.of (by decide) (Nat.le_of_ble_eq_true rfl) hWf (fun κ K => R_X9_isMatter_0  K ⟨rfl, rfl⟩)
set_option maxRecDepth 20000 in
theorem R_X9_isCode_0 {ω : WT} {κ : KT} {l : Launch} {d : Nat} {post : Option Value → St → Prop} {σ : St} {x1 x2 : Int32}  (K : Cm ω κ l yX9_isCode cX9_isCode 3 d (some .boolean) post)
    (b2 : ¬ (x2 ≤ (σ.1 2253)) → vp_in (σ.1 2253) 320)
    (k3 : post (some (.int (if (x2 ≤ (σ.1 2253)) then (0 : Int32) else (if ((σ.2.1 38 ((σ.1 2253)).toNatClampNeg) = x1) then (1 : Int32) else (0 : Int32))))) σ) :
    V ω κ 0 [(0, .ref (ω.2.2.1 35)), (1, .int x1), (2, .int x2)] [] σ := by
  refine V_aload_n 0 K.1 dX9_isCode_0 rfl rfl ?_
  refine V_get (v := .int (σ.1 2253)) K.1 dX9_isCode_1 rfl rfl fw_X9_97 rfl rfl ?_
  refine V_iload_n 2 K.1 dX9_isCode_4 rfl rfl ?_
  refine V_join (J := 26) (S := []) (v := .int (if (x2 ≤ (σ.1 2253)) then (0 : Int32) else (if ((σ.2.1 38 ((σ.1 2253)).toNatClampNeg) = x1) then (1 : Int32) else (0 : Int32)))) (fun hJ1 => ?_) ?_
  · refine V_icmp_ge (tgt := 25) K.1 dX9_isCode_5 (by decide) (fun c5 => ?_) (fun c5 => ?_)
    · refine V_iconst (v := 0) K.1 dX9_isCode_25 (by decide) ?_
      exact V_top (if_pos c5) hJ1
    · refine V_aload_n 0 K.1 dX9_isCode_8 rfl rfl ?_
      refine V_get (v := .ref (ω.2.2.1 38)) K.1 dX9_isCode_9 rfl rfl fw_X9_16 rfl rfl ?_
      refine V_aload_n 0 K.1 dX9_isCode_12 rfl rfl ?_
      refine V_get (v := .int (σ.1 2253)) K.1 dX9_isCode_13 rfl rfl fw_X9_97 rfl rfl ?_
      refine V_iaload (v := (σ.2.1 38 ((σ.1 2253)).toNatClampNeg)) K.1 dX9_isCode_16 rfl (b2 c5) rfl ?_
      refine V_iload_n 1 K.1 dX9_isCode_17 rfl rfl ?_
      refine V_icmp_ne (tgt := 25) K.1 dX9_isCode_18 (by decide) (fun c18 => ?_) (fun c18 => ?_)
      · refine V_iconst (v := 0) K.1 dX9_isCode_25 (by decide) ?_
        exact V_top ((if_neg c5).trans (if_neg c18)) hJ1
      · refine V_iconst (v := 1) K.1 dX9_isCode_21 (by decide) ?_
        refine V_goto (tgt := 26) K.1 dX9_isCode_22 (by decide) ?_
        exact V_top ((if_neg c5).trans (if_pos c18)) hJ1
  exact V_zret K dX9_isCode_26 (by (repeat' split) <;> first | exact Or.inl rfl | exact Or.inr rfl) k3
theorem m_X9_isCode {ω : WT} {l : Launch} {d : Nat} {σ : St} {x1 x2 : Int32}  (hWf : Wf ω) (hd : 0 ≤ d) (b2 : ¬ (x2 ≤ (σ.1 2253)) → vp_in (σ.1 2253) 320) :
    Sp ω l yX9_isCode cX9_isCode 3 (some .boolean) d [.ref (ω.2.2.1 35), .int x1, .int x2] σ (rI (if (x2 ≤ (σ.1 2253)) then (0 : Int32) else (if ((σ.2.1 38 ((σ.1 2253)).toNatClampNeg) = x1) then (1 : Int32) else (0 : Int32))) σ) :=
  Sp.of (by decide) (Nat.le_of_ble_eq_true rfl) hWf (fun κ K => R_X9_isCode_0  K b2 ⟨rfl, rfl⟩)
set_option maxRecDepth 20000 in
theorem R_X9_everyone_0 {ω : WT} {κ : KT} {l : Launch} {d : Nat} {post : Option Value → St → Prop} {σ : St}  (K : Cm ω κ l yX9_everyone cX9_everyone 1 d (some .int) post)
    (k1 : post (some (.int (((1 : Int32) <<< ((σ.1 2245) &&& 31)) - (1 : Int32)))) σ) :
    V ω κ 0 [(0, .ref (ω.2.2.1 35))] [] σ := by
  refine V_iconst (v := 1) K.1 dX9_everyone_0 (by decide) ?_
  refine V_aload_n 0 K.1 dX9_everyone_1 rfl rfl ?_
  refine V_get (v := .int (σ.1 2245)) K.1 dX9_everyone_2 rfl rfl fw_X9_91 rfl rfl ?_
  refine V_ishl K.1 dX9_everyone_5 ?_
  refine V_iconst (v := 1) K.1 dX9_everyone_6 (by decide) ?_
  refine V_isub K.1 dX9_everyone_7 ?_
  exact V_iret K dX9_everyone_8 k1
theorem m_X9_everyone {ω : WT} {l : Launch} {d : Nat} {σ : St}  (hWf : Wf ω) (hd : 0 ≤ d) :
    Sp ω l yX9_everyone cX9_everyone 1 (some .int) d [.ref (ω.2.2.1 35)] σ (rI (((1 : Int32) <<< ((σ.1 2245) &&& 31)) - (1 : Int32)) σ) :=
  Sp.of (by decide) (Nat.le_of_ble_eq_true rfl) hWf (fun κ K => R_X9_everyone_0  K ⟨rfl, rfl⟩)
set_option maxRecDepth 20000 in
theorem R_X9_layHall_0 {ω : WT} {κ : KT} {l : Launch} {d : Nat} {post : Option Value → St → Prop} {σ : St}  (K : Cm ω κ l yX9_layHall cX9_layHall 1 d none post) (hdp : 1 ≤ d)
    (k1 : post none (pS (pS (pS (pS (pS σ 2258 (((1 : Int32) <<< ((σ.1 2245) &&& 31)) - (1 : Int32))) 2259 (0 : Int32)) 2260 ((σ.1 2245) - (1 : Int32))) 2261 (σ.1 2249)) 2262 (σ.1 2250))) :
    V ω κ 0 [(0, .ref (ω.2.2.1 35))] [] σ := by
  refine V_aload_n 0 K.1 dX9_layHall_0 rfl rfl ?_
  refine V_aload_n 0 K.1 dX9_layHall_1 rfl rfl ?_
  refine V_callV (d' := d - 1) (As := []) K.1 dX9_layHall_2 cw_X9_150 rfl rfl rfl (by omega) rfl (by simp [Value.category]) (m_X9_everyone K.1.wf (by omega)) (go_I ?_)
  refine V_putI (key := 2258) K.1 dX9_layHall_5 rfl rfl fw_X9_154 pw_X9_18 rfl rfl rfl rfl ?_
  refine V_aload_n 0 K.1 dX9_layHall_8 rfl rfl ?_
  refine V_iconst (v := 0) K.1 dX9_layHall_9 (by decide) ?_
  refine V_putI (key := 2259) K.1 dX9_layHall_10 rfl rfl fw_X9_157 pw_X9_19 rfl (narZ (Or.inl rfl)) (fitZ (Or.inl rfl)) rfl ?_
  refine V_aload_n 0 K.1 dX9_layHall_13 rfl rfl ?_
  refine V_aload_n 0 K.1 dX9_layHall_14 rfl rfl ?_
  refine V_get (v := .int (σ.1 2245)) K.1 dX9_layHall_15 rfl rfl fw_X9_91 rfl rfl ?_
  refine V_iconst (v := 1) K.1 dX9_layHall_18 (by decide) ?_
  refine V_isub K.1 dX9_layHall_19 ?_
  refine V_putI (key := 2260) K.1 dX9_layHall_20 rfl rfl fw_X9_161 pw_X9_20 rfl rfl rfl rfl ?_
  refine V_aload_n 0 K.1 dX9_layHall_23 rfl rfl ?_
  refine V_aload_n 0 K.1 dX9_layHall_24 rfl rfl ?_
  refine V_get (v := .int (σ.1 2249)) K.1 dX9_layHall_25 rfl rfl fw_X9_124 rfl rfl ?_
  refine V_putI (key := 2261) K.1 dX9_layHall_28 rfl rfl fw_X9_164 pw_X9_21 rfl rfl rfl rfl ?_
  refine V_aload_n 0 K.1 dX9_layHall_31 rfl rfl ?_
  refine V_aload_n 0 K.1 dX9_layHall_32 rfl rfl ?_
  refine V_get (v := .int (σ.1 2250)) K.1 dX9_layHall_33 rfl rfl fw_X9_127 rfl rfl ?_
  refine V_putI (key := 2262) K.1 dX9_layHall_36 rfl rfl fw_X9_167 pw_X9_22 rfl rfl rfl rfl ?_
  exact V_vret K dX9_layHall_39 k1
theorem m_X9_layHall {ω : WT} {l : Launch} {d : Nat} {σ : St}  (hWf : Wf ω) (hd : 1 ≤ d) :
    Sp ω l yX9_layHall cX9_layHall 1 none d [.ref (ω.2.2.1 35)] σ (rV (pS (pS (pS (pS (pS σ 2258 (((1 : Int32) <<< ((σ.1 2245) &&& 31)) - (1 : Int32))) 2259 (0 : Int32)) 2260 ((σ.1 2245) - (1 : Int32))) 2261 (σ.1 2249)) 2262 (σ.1 2250))) :=
  Sp.of (by decide) (Nat.le_of_ble_eq_true rfl) hWf (fun κ K => R_X9_layHall_0  K hd ⟨rfl, rfl⟩)
set_option maxRecDepth 20000 in
theorem R_X9_passBy_0 {ω : WT} {κ : KT} {l : Launch} {d : Nat} {post : Option Value → St → Prop} {σ : St}  (K : Cm ω κ l yX9_passBy cX9_passBy 1 d none post) (hdp : 1 ≤ d)
    (k1 : post none (pS (pS (pS (pS (pS (pS σ 2263 (0 : Int32)) 2264 (0 : Int32)) 2265 (-6 : Int32)) 2266 (σ.1 2245)) 2258 (((1 : Int32) <<< ((σ.1 2245) &&& 31)) - (1 : Int32))) 2259 (0 : Int32))) :
    V ω κ 0 [(0, .ref (ω.2.2.1 35))] [] σ := by
  refine V_aload_n 0 K.1 dX9_passBy_0 rfl rfl ?_
  refine V_iconst (v := 0) K.1 dX9_passBy_1 (by decide) ?_
  refine V_putI (key := 2263) K.1 dX9_passBy_2 rfl rfl fw_X9_170 pw_X9_23 rfl rfl rfl rfl ?_
  refine V_aload_n 0 K.1 dX9_passBy_5 rfl rfl ?_
  refine V_iconst (v := 0) K.1 dX9_passBy_6 (by decide) ?_
  refine V_putI (key := 2264) K.1 dX9_passBy_7 rfl rfl fw_X9_173 pw_X9_24 rfl rfl rfl rfl ?_
  refine V_aload_n 0 K.1 dX9_passBy_10 rfl rfl ?_
  refine V_bipush (v := -6) K.1 dX9_passBy_11 (by decide) ?_
  refine V_putI (key := 2265) K.1 dX9_passBy_13 rfl rfl fw_X9_180 pw_X9_25 rfl rfl rfl rfl ?_
  refine V_aload_n 0 K.1 dX9_passBy_16 rfl rfl ?_
  refine V_aload_n 0 K.1 dX9_passBy_17 rfl rfl ?_
  refine V_get (v := .int (σ.1 2245)) K.1 dX9_passBy_18 rfl rfl fw_X9_91 rfl rfl ?_
  refine V_putI (key := 2266) K.1 dX9_passBy_21 rfl rfl fw_X9_183 pw_X9_26 rfl rfl rfl rfl ?_
  refine V_aload_n 0 K.1 dX9_passBy_24 rfl rfl ?_
  refine V_aload_n 0 K.1 dX9_passBy_25 rfl rfl ?_
  refine V_callV (d' := d - 1) (As := []) K.1 dX9_passBy_26 cw_X9_150 rfl rfl rfl (by omega) rfl (by simp [Value.category]) (m_X9_everyone K.1.wf (by omega)) (go_I ?_)
  refine V_putI (key := 2258) K.1 dX9_passBy_29 rfl rfl fw_X9_154 pw_X9_18 rfl rfl rfl rfl ?_
  refine V_aload_n 0 K.1 dX9_passBy_32 rfl rfl ?_
  refine V_iconst (v := 0) K.1 dX9_passBy_33 (by decide) ?_
  refine V_putI (key := 2259) K.1 dX9_passBy_34 rfl rfl fw_X9_157 pw_X9_19 rfl (narZ (Or.inl rfl)) (fitZ (Or.inl rfl)) rfl ?_
  exact V_vret K dX9_passBy_37 k1
theorem m_X9_passBy {ω : WT} {l : Launch} {d : Nat} {σ : St}  (hWf : Wf ω) (hd : 1 ≤ d) :
    Sp ω l yX9_passBy cX9_passBy 1 none d [.ref (ω.2.2.1 35)] σ (rV (pS (pS (pS (pS (pS (pS σ 2263 (0 : Int32)) 2264 (0 : Int32)) 2265 (-6 : Int32)) 2266 (σ.1 2245)) 2258 (((1 : Int32) <<< ((σ.1 2245) &&& 31)) - (1 : Int32))) 2259 (0 : Int32))) :=
  Sp.of (by decide) (Nat.le_of_ble_eq_true rfl) hWf (fun κ K => R_X9_passBy_0  K hd ⟨rfl, rfl⟩)
set_option maxRecDepth 20000 in
theorem R_X9_says_0 {ω : WT} {κ : KT} {l : Launch} {d : Nat} {post : Option Value → St → Prop} {σ : St} {x1 x2 x3 x4 : Int32}  (K : Cm ω κ l yX9_says cX9_says 6 d (some .boolean) post)
    (b1 : vp_in x1 8)
    (b3 : vp_in x1 8)
    (k4 : ((σ.2.1 39 (x1).toNatClampNeg) = 0) → post (some (.int (if ((((σ.2.1 40 (x1).toNatClampNeg) >>> (x2 &&& 31)) &&& (1 : Int32)) = (1 : Int32)) then (1 : Int32) else (0 : Int32)))) σ)
    (b5 : ¬ ((σ.2.1 39 (x1).toNatClampNeg) = 0) → ¬ (x3 = x4) → vp_in x1 8)
    (k7 : ¬ ((σ.2.1 39 (x1).toNatClampNeg) = 0) → ¬ (x3 = x4) → post (some (.int (if ((σ.2.1 39 (x1).toNatClampNeg) = (1 : Int32)) then (if (x3 ≤ x4) then (0 : Int32) else (1 : Int32)) else (if (x4 ≤ x3) then (0 : Int32) else (1 : Int32))))) σ)
    (k8 : ¬ ((σ.2.1 39 (x1).toNatClampNeg) = 0) → (x3 = x4) → post (some (.int (if ((((σ.2.1 40 (x1).toNatClampNeg) >>> (x2 &&& 31)) &&& (1 : Int32)) = (1 : Int32)) then (1 : Int32) else (0 : Int32)))) σ) :
    V ω κ 0 [(0, .ref (ω.2.2.1 35)), (1, .int x1), (2, .int x2), (3, .int x3), (4, .int x4)] [] σ := by
  refine V_aload_n 0 K.1 dX9_says_0 rfl rfl ?_
  refine V_get (v := .ref (ω.2.2.1 40)) K.1 dX9_says_1 rfl rfl fw_X9_22 rfl rfl ?_
  refine V_iload_n 1 K.1 dX9_says_4 rfl rfl ?_
  refine V_iaload (v := (σ.2.1 40 (x1).toNatClampNeg)) K.1 dX9_says_5 rfl b1 rfl ?_
  refine V_iload_n 2 K.1 dX9_says_6 rfl rfl ?_
  refine V_ishr K.1 dX9_says_7 ?_
  refine V_iconst (v := 1) K.1 dX9_says_8 (by decide) ?_
  refine V_iand K.1 dX9_says_9 ?_
  refine V_iconst (v := 1) K.1 dX9_says_10 (by decide) ?_
  refine V_join (J := 19) (S := []) (v := .int (if ((((σ.2.1 40 (x1).toNatClampNeg) >>> (x2 &&& 31)) &&& (1 : Int32)) = (1 : Int32)) then (1 : Int32) else (0 : Int32))) (fun hJ2 => ?_) ?_
  · refine V_icmp_ne (tgt := 18) K.1 dX9_says_11 (by decide) (fun c11 => ?_) (fun c11 => ?_)
    · refine V_iconst (v := 0) K.1 dX9_says_18 (by decide) ?_
      exact V_top (if_neg c11) hJ2
    · refine V_iconst (v := 1) K.1 dX9_says_14 (by decide) ?_
      refine V_goto (tgt := 19) K.1 dX9_says_15 (by decide) ?_
      exact V_top (if_pos c11) hJ2
  refine V_istore (L' := [(0, .ref (ω.2.2.1 35)), (1, .int x1), (2, .int x2), (3, .int x3), (4, .int x4), (5, .int (if ((((σ.2.1 40 (x1).toNatClampNeg) >>> (x2 &&& 31)) &&& (1 : Int32)) = (1 : Int32)) then (1 : Int32) else (0 : Int32)))]) K.1 dX9_says_19 (by decide) rfl ?_
  refine V_aload_n 0 K.1 dX9_says_21 rfl rfl ?_
  refine V_get (v := .ref (ω.2.2.1 39)) K.1 dX9_says_22 rfl rfl fw_X9_19 rfl rfl ?_
  refine V_iload_n 1 K.1 dX9_says_25 rfl rfl ?_
  refine V_iaload (v := (σ.2.1 39 (x1).toNatClampNeg)) K.1 dX9_says_26 rfl b3 rfl ?_
  refine V_if_eq (tgt := 36) K.1 dX9_says_27 (by decide) (fun c27 => ?_) (fun c27 => ?_)
  · refine V_iload 5 K.1 dX9_says_36 rfl ?_
    exact V_zret K dX9_says_38 (by (repeat' split) <;> first | exact Or.inl rfl | exact Or.inr rfl) (k4 c27)
  · refine V_iload_n 3 K.1 dX9_says_30 rfl rfl ?_
    refine V_iload 4 K.1 dX9_says_31 rfl ?_
    refine V_icmp_ne (tgt := 39) K.1 dX9_says_33 (by decide) (fun c33 => ?_) (fun c33 => ?_)
    · refine V_aload_n 0 K.1 dX9_says_39 rfl rfl ?_
      refine V_get (v := .ref (ω.2.2.1 39)) K.1 dX9_says_40 rfl rfl fw_X9_19 rfl rfl ?_
      refine V_iload_n 1 K.1 dX9_says_43 rfl rfl ?_
      refine V_iaload (v := (σ.2.1 39 (x1).toNatClampNeg)) K.1 dX9_says_44 rfl (b5 c27 c33) rfl ?_
      refine V_iconst (v := 1) K.1 dX9_says_45 (by decide) ?_
      refine V_join (J := 74) (S := []) (v := .int (if ((σ.2.1 39 (x1).toNatClampNeg) = (1 : Int32)) then (if (x3 ≤ x4) then (0 : Int32) else (1 : Int32)) else (if (x4 ≤ x3) then (0 : Int32) else (1 : Int32)))) (fun hJ6 => ?_) ?_
      · refine V_icmp_ne (tgt := 63) K.1 dX9_says_46 (by decide) (fun c46 => ?_) (fun c46 => ?_)
        · refine V_iload_n 3 K.1 dX9_says_63 rfl rfl ?_
          refine V_iload 4 K.1 dX9_says_64 rfl ?_
          refine V_icmp_ge (tgt := 73) K.1 dX9_says_66 (by decide) (fun c66 => ?_) (fun c66 => ?_)
          · refine V_iconst (v := 0) K.1 dX9_says_73 (by decide) ?_
            exact V_top ((if_neg c46).trans (if_pos c66)) hJ6
          · refine V_iconst (v := 1) K.1 dX9_says_69 (by decide) ?_
            refine V_goto (tgt := 74) K.1 dX9_says_70 (by decide) ?_
            exact V_top ((if_neg c46).trans (if_neg c66)) hJ6
        · refine V_iload_n 3 K.1 dX9_says_49 rfl rfl ?_
          refine V_iload 4 K.1 dX9_says_50 rfl ?_
          refine V_icmp_le (tgt := 59) K.1 dX9_says_52 (by decide) (fun c52 => ?_) (fun c52 => ?_)
          · refine V_iconst (v := 0) K.1 dX9_says_59 (by decide) ?_
            refine V_goto (tgt := 74) K.1 dX9_says_60 (by decide) ?_
            exact V_top ((if_pos c46).trans (if_pos c52)) hJ6
          · refine V_iconst (v := 1) K.1 dX9_says_55 (by decide) ?_
            refine V_goto (tgt := 74) K.1 dX9_says_56 (by decide) ?_
            exact V_top ((if_pos c46).trans (if_neg c52)) hJ6
      exact V_zret K dX9_says_74 (by (repeat' split) <;> first | exact Or.inl rfl | exact Or.inr rfl) (k7 c27 c33)
    · refine V_iload 5 K.1 dX9_says_36 rfl ?_
      exact V_zret K dX9_says_38 (by (repeat' split) <;> first | exact Or.inl rfl | exact Or.inr rfl) (k8 c27 c33)
theorem m_X9_says {ω : WT} {l : Launch} {d : Nat} {σ : St} {x1 x2 x3 x4 : Int32}  (hWf : Wf ω) (hd : 0 ≤ d) (b1 : vp_in x1 8) (b3 : vp_in x1 8) (b5 : ¬ ((σ.2.1 39 (x1).toNatClampNeg) = 0) → ¬ (x3 = x4) → vp_in x1 8) :
    Sp ω l yX9_says cX9_says 6 (some .boolean) d [.ref (ω.2.2.1 35), .int x1, .int x2, .int x3, .int x4] σ (rI (if ((σ.2.1 39 (x1).toNatClampNeg) = 0) then (if ((((σ.2.1 40 (x1).toNatClampNeg) >>> (x2 &&& 31)) &&& (1 : Int32)) = (1 : Int32)) then (1 : Int32) else (0 : Int32)) else (if (x3 = x4) then (if ((((σ.2.1 40 (x1).toNatClampNeg) >>> (x2 &&& 31)) &&& (1 : Int32)) = (1 : Int32)) then (1 : Int32) else (0 : Int32)) else (if ((σ.2.1 39 (x1).toNatClampNeg) = (1 : Int32)) then (if (x3 ≤ x4) then (0 : Int32) else (1 : Int32)) else (if (x4 ≤ x3) then (0 : Int32) else (1 : Int32))))) σ) :=
  Sp.of (by decide) (Nat.le_of_ble_eq_true rfl) hWf (fun κ K => R_X9_says_0  K b1 b3 (fun c27 => ⟨congrArg (fun z => some (Value.int z)) ((if_pos c27)).symm, rfl⟩) b5 (fun c27 c33 => ⟨congrArg (fun z => some (Value.int z)) (((if_neg c27).trans (if_neg c33))).symm, rfl⟩) (fun c27 c33 => ⟨congrArg (fun z => some (Value.int z)) (((if_neg c27).trans (if_pos c33))).symm, rfl⟩))
set_option maxRecDepth 20000 in
theorem R_X9_stateNow_0 {ω : WT} {κ : KT} {l : Launch} {d : Nat} {post : Option Value → St → Prop} {σ : St}  (K : Cm ω κ l yX9_stateNow cX9_stateNow 1 d (some .int) post)
    (k2 : post (some (.int (((if ((σ.1 2259) = 0) then (σ.1 2258) else (256 : Int32)) * (8 : Int32)) + (σ.1 2260)))) σ) :
    V ω κ 0 [(0, .ref (ω.2.2.1 35))] [] σ := by
  refine V_aload_n 0 K.1 dX9_stateNow_0 rfl rfl ?_
  refine V_get (v := .int (σ.1 2259)) K.1 dX9_stateNow_1 rfl rfl fw_X9_157 rfl rfl ?_
  refine V_join (J := 17) (S := []) (v := .int (if ((σ.1 2259) = 0) then (σ.1 2258) else (256 : Int32))) (fun hJ1 => ?_) ?_
  · refine V_if_eq (tgt := 13) K.1 dX9_stateNow_4 (by decide) (fun c4 => ?_) (fun c4 => ?_)
    · refine V_aload_n 0 K.1 dX9_stateNow_13 rfl rfl ?_
      refine V_get (v := .int (σ.1 2258)) K.1 dX9_stateNow_14 rfl rfl fw_X9_154 rfl rfl ?_
      exact V_top (if_pos c4) hJ1
    · refine V_sipush (v := 256) K.1 dX9_stateNow_7 (by decide) ?_
      refine V_goto (tgt := 17) K.1 dX9_stateNow_10 (by decide) ?_
      exact V_top (if_neg c4) hJ1
  refine V_bipush (v := 8) K.1 dX9_stateNow_17 (by decide) ?_
  refine V_imul K.1 dX9_stateNow_19 ?_
  refine V_aload_n 0 K.1 dX9_stateNow_20 rfl rfl ?_
  refine V_get (v := .int (σ.1 2260)) K.1 dX9_stateNow_21 rfl rfl fw_X9_161 rfl rfl ?_
  refine V_iadd K.1 dX9_stateNow_24 ?_
  exact V_iret K dX9_stateNow_25 k2
theorem m_X9_stateNow {ω : WT} {l : Launch} {d : Nat} {σ : St}  (hWf : Wf ω) (hd : 0 ≤ d) :
    Sp ω l yX9_stateNow cX9_stateNow 1 (some .int) d [.ref (ω.2.2.1 35)] σ (rI (((if ((σ.1 2259) = 0) then (σ.1 2258) else (256 : Int32)) * (8 : Int32)) + (σ.1 2260)) σ) :=
  Sp.of (by decide) (Nat.le_of_ble_eq_true rfl) hWf (fun κ K => R_X9_stateNow_0  K ⟨rfl, rfl⟩)
set_option maxRecDepth 20000 in
theorem R_X9_keepAhead_0 {ω : WT} {κ : KT} {l : Launch} {d : Nat} {post : Option Value → St → Prop} {σ : St} {x1 x2 : Int32}  (K : Cm ω κ l yX9_keepAhead cX9_keepAhead 3 d none post)
    (b1 : vp_in x1 7)
    (b2 : vp_in x1 7)
    (z3 : (σ.1 2259) = 0 ∨ (σ.1 2259) = 1)
    (b4 : vp_in x1 7)
    (b5 : vp_in x1 7)
    (b6 : vp_in x1 7)
    (k7 : post none (pA (pA (pA (pA (pA σ 49 (x1).toNatClampNeg (σ.1 2258)) 50 (x1).toNatClampNeg (σ.1 2259)) 51 (x1).toNatClampNeg (σ.1 2260)) 52 (x1).toNatClampNeg x2) 53 (x1).toNatClampNeg (-1 : Int32))) :
    V ω κ 0 [(0, .ref (ω.2.2.1 35)), (1, .int x1), (2, .int x2)] [] σ := by
  refine V_aload_n 0 K.1 dX9_keepAhead_0 rfl rfl ?_
  refine V_get (v := .ref (ω.2.2.1 49)) K.1 dX9_keepAhead_1 rfl rfl fw_X9_49 rfl rfl ?_
  refine V_iload_n 1 K.1 dX9_keepAhead_4 rfl rfl ?_
  refine V_aload_n 0 K.1 dX9_keepAhead_5 rfl rfl ?_
  refine V_get (v := .int (σ.1 2258)) K.1 dX9_keepAhead_6 rfl rfl fw_X9_154 rfl rfl ?_
  refine V_iastore K.1 dX9_keepAhead_9 rfl b1 ?_
  refine V_aload_n 0 K.1 dX9_keepAhead_10 rfl rfl ?_
  refine V_get (v := .ref (ω.2.2.1 50)) K.1 dX9_keepAhead_11 rfl rfl fw_X9_52 rfl rfl ?_
  refine V_iload_n 1 K.1 dX9_keepAhead_14 rfl rfl ?_
  refine V_aload_n 0 K.1 dX9_keepAhead_15 rfl rfl ?_
  refine V_get (v := .int (σ.1 2259)) K.1 dX9_keepAhead_16 rfl rfl fw_X9_157 rfl rfl ?_
  refine V_bastore K.1 dX9_keepAhead_19 rfl b2 (narZ2 z3) ?_
  refine V_aload_n 0 K.1 dX9_keepAhead_20 rfl rfl ?_
  refine V_get (v := .ref (ω.2.2.1 51)) K.1 dX9_keepAhead_21 rfl rfl fw_X9_56 rfl rfl ?_
  refine V_iload_n 1 K.1 dX9_keepAhead_24 rfl rfl ?_
  refine V_aload_n 0 K.1 dX9_keepAhead_25 rfl rfl ?_
  refine V_get (v := .int (σ.1 2260)) K.1 dX9_keepAhead_26 rfl rfl fw_X9_161 rfl rfl ?_
  refine V_iastore K.1 dX9_keepAhead_29 rfl b4 ?_
  refine V_aload_n 0 K.1 dX9_keepAhead_30 rfl rfl ?_
  refine V_get (v := .ref (ω.2.2.1 52)) K.1 dX9_keepAhead_31 rfl rfl fw_X9_59 rfl rfl ?_
  refine V_iload_n 1 K.1 dX9_keepAhead_34 rfl rfl ?_
  refine V_iload_n 2 K.1 dX9_keepAhead_35 rfl rfl ?_
  refine V_iastore K.1 dX9_keepAhead_36 rfl b5 ?_
  refine V_aload_n 0 K.1 dX9_keepAhead_37 rfl rfl ?_
  refine V_get (v := .ref (ω.2.2.1 53)) K.1 dX9_keepAhead_38 rfl rfl fw_X9_62 rfl rfl ?_
  refine V_iload_n 1 K.1 dX9_keepAhead_41 rfl rfl ?_
  refine V_iconst (v := -1) K.1 dX9_keepAhead_42 (by decide) ?_
  refine V_iastore K.1 dX9_keepAhead_43 rfl b6 ?_
  exact V_vret K dX9_keepAhead_44 k7
theorem m_X9_keepAhead {ω : WT} {l : Launch} {d : Nat} {σ : St} {x1 x2 : Int32}  (hWf : Wf ω) (hd : 0 ≤ d) (b1 : vp_in x1 7) (b2 : vp_in x1 7) (z3 : (σ.1 2259) = 0 ∨ (σ.1 2259) = 1) (b4 : vp_in x1 7) (b5 : vp_in x1 7) (b6 : vp_in x1 7) :
    Sp ω l yX9_keepAhead cX9_keepAhead 3 none d [.ref (ω.2.2.1 35), .int x1, .int x2] σ (rV (pA (pA (pA (pA (pA σ 49 (x1).toNatClampNeg (σ.1 2258)) 50 (x1).toNatClampNeg (σ.1 2259)) 51 (x1).toNatClampNeg (σ.1 2260)) 52 (x1).toNatClampNeg x2) 53 (x1).toNatClampNeg (-1 : Int32))) :=
  Sp.of (by decide) (Nat.le_of_ble_eq_true rfl) hWf (fun κ K => R_X9_keepAhead_0  K b1 b2 z3 b4 b5 b6 ⟨rfl, rfl⟩)
set_option maxRecDepth 20000 in
theorem R_X9_exchange_0 {ω : WT} {κ : KT} {l : Launch} {d : Nat} {post : Option Value → St → Prop} {σ : St} {x1 x2 : Int32}  (K : Cm ω κ l yX9_exchange cX9_exchange 4 d none post)
    (b1 : vp_in x1 6)
    (b2 : vp_in x2 6)
    (b3 : vp_in x1 6)
    (b4 : vp_in x2 6)
    (k5 : post none (pA (pA σ 54 (x1).toNatClampNeg (σ.2.1 54 (x2).toNatClampNeg)) 54 (x2).toNatClampNeg (σ.2.1 54 (x1).toNatClampNeg))) :
    V ω κ 0 [(0, .ref (ω.2.2.1 35)), (1, .int x1), (2, .int x2)] [] σ := by
  refine V_aload_n 0 K.1 dX9_exchange_0 rfl rfl ?_
  refine V_get (v := .ref (ω.2.2.1 54)) K.1 dX9_exchange_1 rfl rfl fw_X9_65 rfl rfl ?_
  refine V_iload_n 1 K.1 dX9_exchange_4 rfl rfl ?_
  refine V_iaload (v := (σ.2.1 54 (x1).toNatClampNeg)) K.1 dX9_exchange_5 rfl b1 rfl ?_
  refine V_istore_n (L' := [(0, .ref (ω.2.2.1 35)), (1, .int x1), (2, .int x2), (3, .int (σ.2.1 54 (x1).toNatClampNeg))]) K.1 dX9_exchange_6 rfl (by decide) rfl ?_
  refine V_aload_n 0 K.1 dX9_exchange_7 rfl rfl ?_
  refine V_get (v := .ref (ω.2.2.1 54)) K.1 dX9_exchange_8 rfl rfl fw_X9_65 rfl rfl ?_
  refine V_iload_n 1 K.1 dX9_exchange_11 rfl rfl ?_
  refine V_aload_n 0 K.1 dX9_exchange_12 rfl rfl ?_
  refine V_get (v := .ref (ω.2.2.1 54)) K.1 dX9_exchange_13 rfl rfl fw_X9_65 rfl rfl ?_
  refine V_iload_n 2 K.1 dX9_exchange_16 rfl rfl ?_
  refine V_iaload (v := (σ.2.1 54 (x2).toNatClampNeg)) K.1 dX9_exchange_17 rfl b2 rfl ?_
  refine V_iastore K.1 dX9_exchange_18 rfl b3 ?_
  refine V_aload_n 0 K.1 dX9_exchange_19 rfl rfl ?_
  refine V_get (v := .ref (ω.2.2.1 54)) K.1 dX9_exchange_20 rfl rfl fw_X9_65 rfl rfl ?_
  refine V_iload_n 2 K.1 dX9_exchange_23 rfl rfl ?_
  refine V_iload_n 3 K.1 dX9_exchange_24 rfl rfl ?_
  refine V_iastore K.1 dX9_exchange_25 rfl b4 ?_
  exact V_vret K dX9_exchange_26 k5
theorem m_X9_exchange {ω : WT} {l : Launch} {d : Nat} {σ : St} {x1 x2 : Int32}  (hWf : Wf ω) (hd : 0 ≤ d) (b1 : vp_in x1 6) (b2 : vp_in x2 6) (b3 : vp_in x1 6) (b4 : vp_in x2 6) :
    Sp ω l yX9_exchange cX9_exchange 4 none d [.ref (ω.2.2.1 35), .int x1, .int x2] σ (rV (pA (pA σ 54 (x1).toNatClampNeg (σ.2.1 54 (x2).toNatClampNeg)) 54 (x2).toNatClampNeg (σ.2.1 54 (x1).toNatClampNeg))) :=
  Sp.of (by decide) (Nat.le_of_ble_eq_true rfl) hWf (fun κ K => R_X9_exchange_0  K b1 b2 b3 b4 ⟨rfl, rfl⟩)
set_option maxRecDepth 20000 in
theorem R_X9_begins_0 {ω : WT} {κ : KT} {l : Launch} {d : Nat} {post : Option Value → St → Prop} {σ : St} {x1 : Int32}  (K : Cm ω κ l yX9_begins cX9_begins 2 d none post)
    (k1 : post none (pS σ 2241 (((31 : Int32) * (σ.1 2241)) + x1))) :
    V ω κ 0 [(0, .ref (ω.2.2.1 35)), (1, .int x1)] [] σ := by
  refine V_aload_n 0 K.1 dX9_begins_0 rfl rfl ?_
  refine V_bipush (v := 31) K.1 dX9_begins_1 (by decide) ?_
  refine V_aload_n 0 K.1 dX9_begins_3 rfl rfl ?_
  refine V_get (v := .int (σ.1 2241)) K.1 dX9_begins_4 rfl rfl fw_X9_295 rfl rfl ?_
  refine V_imul K.1 dX9_begins_7 ?_
  refine V_iload_n 1 K.1 dX9_begins_8 rfl rfl ?_
  refine V_iadd K.1 dX9_begins_9 ?_
  refine V_putI (key := 2241) K.1 dX9_begins_10 rfl rfl fw_X9_295 pw_X9_1 rfl rfl rfl rfl ?_
  exact V_vret K dX9_begins_13 k1
theorem m_X9_begins {ω : WT} {l : Launch} {d : Nat} {σ : St} {x1 : Int32}  (hWf : Wf ω) (hd : 0 ≤ d) :
    Sp ω l yX9_begins cX9_begins 2 none d [.ref (ω.2.2.1 35), .int x1] σ (rV (pS σ 2241 (((31 : Int32) * (σ.1 2241)) + x1))) :=
  Sp.of (by decide) (Nat.le_of_ble_eq_true rfl) hWf (fun κ K => R_X9_begins_0  K ⟨rfl, rfl⟩)
set_option maxRecDepth 20000 in
theorem R_X6_hasRow_0 {ω : WT} {κ : KT} {l : Launch} {d : Nat} {post : Option Value → St → Prop} {σ : St} {j : Nat} (hj : j < 4) (K : Cm ω κ l yX6_hasRow cX6_hasRow 1 d (some .boolean) post)
    (k2 : post (some (.int (if ((σ.1 (64 * (2 + j) + 1)) = (-1 : Int32)) then (0 : Int32) else (1 : Int32)))) σ) :
    V ω κ 0 [(0, .ref (ω.2.2.1 (2 + j)))] [] σ := by
  refine V_aload_n 0 K.1 dX6_hasRow_0 rfl rfl ?_
  refine V_get (v := .int (σ.1 (64 * (2 + j) + 1))) K.1 dX6_hasRow_1 (shO j hj) rfl fw_X6_15 rfl rfl ?_
  refine V_iconst (v := -1) K.1 dX6_hasRow_4 (by decide) ?_
  refine V_join (J := 13) (S := []) (v := .int (if ((σ.1 (64 * (2 + j) + 1)) = (-1 : Int32)) then (0 : Int32) else (1 : Int32))) (fun hJ1 => ?_) ?_
  · refine V_icmp_eq (tgt := 12) K.1 dX6_hasRow_5 (by decide) (fun c5 => ?_) (fun c5 => ?_)
    · refine V_iconst (v := 0) K.1 dX6_hasRow_12 (by decide) ?_
      exact V_top (if_pos c5) hJ1
    · refine V_iconst (v := 1) K.1 dX6_hasRow_8 (by decide) ?_
      refine V_goto (tgt := 13) K.1 dX6_hasRow_9 (by decide) ?_
      exact V_top (if_neg c5) hJ1
  exact V_zret K dX6_hasRow_13 (by (repeat' split) <;> first | exact Or.inl rfl | exact Or.inr rfl) k2
theorem m_X6_hasRow {ω : WT} {l : Launch} {d : Nat} {σ : St} {j : Nat} (hj : j < 4) (hWf : Wf ω) (hd : 0 ≤ d) :
    Sp ω l yX6_hasRow cX6_hasRow 1 (some .boolean) d [.ref (ω.2.2.1 (2 + j))] σ (rI (if ((σ.1 (64 * (2 + j) + 1)) = (-1 : Int32)) then (0 : Int32) else (1 : Int32)) σ) :=
  Sp.of (by decide) (Nat.le_of_ble_eq_true rfl) hWf (fun κ K => R_X6_hasRow_0 hj K ⟨rfl, rfl⟩)
set_option maxRecDepth 20000 in
theorem R_X6_clear_0 {ω : WT} {κ : KT} {l : Launch} {d : Nat} {post : Option Value → St → Prop} {σ : St} {j : Nat} (hj : j < 4) (K : Cm ω κ l yX6_clear cX6_clear 1 d none post)
    (k1 : post none (pS σ (64 * (2 + j) + 1) (-1 : Int32))) :
    V ω κ 0 [(0, .ref (ω.2.2.1 (2 + j)))] [] σ := by
  refine V_aload_n 0 K.1 dX6_clear_0 rfl rfl ?_
  refine V_iconst (v := -1) K.1 dX6_clear_1 (by decide) ?_
  refine V_putI (key := (64 * (2 + j) + 1)) K.1 dX6_clear_2 (shO j hj) rfl fw_X6_15 pw_X6_1 rfl rfl rfl rfl ?_
  exact V_vret K dX6_clear_5 k1
theorem m_X6_clear {ω : WT} {l : Launch} {d : Nat} {σ : St} {j : Nat} (hj : j < 4) (hWf : Wf ω) (hd : 0 ≤ d) :
    Sp ω l yX6_clear cX6_clear 1 none d [.ref (ω.2.2.1 (2 + j))] σ (rV (pS σ (64 * (2 + j) + 1) (-1 : Int32))) :=
  Sp.of (by decide) (Nat.le_of_ble_eq_true rfl) hWf (fun κ K => R_X6_clear_0 hj K ⟨rfl, rfl⟩)
set_option maxRecDepth 20000 in
theorem R_X6_hasCells_0 {ω : WT} {κ : KT} {l : Launch} {d : Nat} {post : Option Value → St → Prop} {σ : St} {x1 x2 : Int32} {j : Nat} (hj : j < 4) (K : Cm ω κ l yX6_hasCells cX6_hasCells 3 d (some .boolean) post)
    (k2 : post (some (.int (if (x1 < 0) then (0 : Int32) else (if ((σ.1 (64 * (2 + j) + 1)) < x1) then (0 : Int32) else (if (x2 < 0) then (0 : Int32) else (if (((σ.1 (64 * (2 + j) + 1)) - x1) < x2) then (0 : Int32) else (1 : Int32))))))) σ) :
    V ω κ 0 [(0, .ref (ω.2.2.1 (2 + j))), (1, .int x1), (2, .int x2)] [] σ := by
  refine V_iload_n 1 K.1 dX6_hasCells_0 rfl rfl ?_
  refine V_join (J := 31) (S := []) (v := .int (if (x1 < 0) then (0 : Int32) else (if ((σ.1 (64 * (2 + j) + 1)) < x1) then (0 : Int32) else (if (x2 < 0) then (0 : Int32) else (if (((σ.1 (64 * (2 + j) + 1)) - x1) < x2) then (0 : Int32) else (1 : Int32)))))) (fun hJ1 => ?_) ?_
  · refine V_if_lt (tgt := 30) K.1 dX6_hasCells_1 (by decide) (fun c1 => ?_) (fun c1 => ?_)
    · refine V_iconst (v := 0) K.1 dX6_hasCells_30 (by decide) ?_
      exact V_top (if_pos c1) hJ1
    · refine V_iload_n 1 K.1 dX6_hasCells_4 rfl rfl ?_
      refine V_aload_n 0 K.1 dX6_hasCells_5 rfl rfl ?_
      refine V_get (v := .int (σ.1 (64 * (2 + j) + 1))) K.1 dX6_hasCells_6 (shO j hj) rfl fw_X6_15 rfl rfl ?_
      refine V_icmp_gt (tgt := 30) K.1 dX6_hasCells_9 (by decide) (fun c9 => ?_) (fun c9 => ?_)
      · refine V_iconst (v := 0) K.1 dX6_hasCells_30 (by decide) ?_
        exact V_top ((if_neg c1).trans (if_pos c9)) hJ1
      · refine V_iload_n 2 K.1 dX6_hasCells_12 rfl rfl ?_
        refine V_if_lt (tgt := 30) K.1 dX6_hasCells_13 (by decide) (fun c13 => ?_) (fun c13 => ?_)
        · refine V_iconst (v := 0) K.1 dX6_hasCells_30 (by decide) ?_
          exact V_top (((if_neg c1).trans (if_neg c9)).trans (if_pos c13)) hJ1
        · refine V_iload_n 2 K.1 dX6_hasCells_16 rfl rfl ?_
          refine V_aload_n 0 K.1 dX6_hasCells_17 rfl rfl ?_
          refine V_get (v := .int (σ.1 (64 * (2 + j) + 1))) K.1 dX6_hasCells_18 (shO j hj) rfl fw_X6_15 rfl rfl ?_
          refine V_iload_n 1 K.1 dX6_hasCells_21 rfl rfl ?_
          refine V_isub K.1 dX6_hasCells_22 ?_
          refine V_icmp_gt (tgt := 30) K.1 dX6_hasCells_23 (by decide) (fun c23 => ?_) (fun c23 => ?_)
          · refine V_iconst (v := 0) K.1 dX6_hasCells_30 (by decide) ?_
            exact V_top ((((if_neg c1).trans (if_neg c9)).trans (if_neg c13)).trans (if_pos c23)) hJ1
          · refine V_iconst (v := 1) K.1 dX6_hasCells_26 (by decide) ?_
            refine V_goto (tgt := 31) K.1 dX6_hasCells_27 (by decide) ?_
            exact V_top ((((if_neg c1).trans (if_neg c9)).trans (if_neg c13)).trans (if_neg c23)) hJ1
  exact V_zret K dX6_hasCells_31 (by (repeat' split) <;> first | exact Or.inl rfl | exact Or.inr rfl) k2
theorem m_X6_hasCells {ω : WT} {l : Launch} {d : Nat} {σ : St} {x1 x2 : Int32} {j : Nat} (hj : j < 4) (hWf : Wf ω) (hd : 0 ≤ d) :
    Sp ω l yX6_hasCells cX6_hasCells 3 (some .boolean) d [.ref (ω.2.2.1 (2 + j)), .int x1, .int x2] σ (rI (if (x1 < 0) then (0 : Int32) else (if ((σ.1 (64 * (2 + j) + 1)) < x1) then (0 : Int32) else (if (x2 < 0) then (0 : Int32) else (if (((σ.1 (64 * (2 + j) + 1)) - x1) < x2) then (0 : Int32) else (1 : Int32))))) σ) :=
  Sp.of (by decide) (Nat.le_of_ble_eq_true rfl) hWf (fun κ K => R_X6_hasCells_0 hj K ⟨rfl, rfl⟩)
set_option maxRecDepth 20000 in
theorem R_X6_at_0 {ω : WT} {κ : KT} {l : Launch} {d : Nat} {post : Option Value → St → Prop} {σ : St} {x1 : Int32} {j : Nat} (hj : j < 4) (K : Cm ω κ l yX6_at cX6_at 2 d (some .int) post)
    (b2 : ¬ (x1 < 0) → ¬ ((σ.1 (64 * (2 + j) + 1)) ≤ x1) → vp_in x1 80)
    (k3 : post (some (.int (if (x1 < 0) then (0 : Int32) else (if ((σ.1 (64 * (2 + j) + 1)) ≤ x1) then (0 : Int32) else (σ.2.1 (6 + j) (x1).toNatClampNeg))))) σ) :
    V ω κ 0 [(0, .ref (ω.2.2.1 (2 + j))), (1, .int x1)] [] σ := by
  refine V_iload_n 1 K.1 dX6_at_0 rfl rfl ?_
  refine V_join (J := 22) (S := []) (v := .int (if (x1 < 0) then (0 : Int32) else (if ((σ.1 (64 * (2 + j) + 1)) ≤ x1) then (0 : Int32) else (σ.2.1 (6 + j) (x1).toNatClampNeg)))) (fun hJ1 => ?_) ?_
  · refine V_if_lt (tgt := 21) K.1 dX6_at_1 (by decide) (fun c1 => ?_) (fun c1 => ?_)
    · refine V_iconst (v := 0) K.1 dX6_at_21 (by decide) ?_
      exact V_top (if_pos c1) hJ1
    · refine V_iload_n 1 K.1 dX6_at_4 rfl rfl ?_
      refine V_aload_n 0 K.1 dX6_at_5 rfl rfl ?_
      refine V_get (v := .int (σ.1 (64 * (2 + j) + 1))) K.1 dX6_at_6 (shO j hj) rfl fw_X6_15 rfl rfl ?_
      refine V_icmp_ge (tgt := 21) K.1 dX6_at_9 (by decide) (fun c9 => ?_) (fun c9 => ?_)
      · refine V_iconst (v := 0) K.1 dX6_at_21 (by decide) ?_
        exact V_top ((if_neg c1).trans (if_pos c9)) hJ1
      · refine V_aload_n 0 K.1 dX6_at_12 rfl rfl ?_
        refine V_get (v := .ref (ω.2.2.1 (6 + j))) K.1 dX6_at_13 (shO j hj) rfl fw_X6_9 rfl rfl ?_
        refine V_iload_n 1 K.1 dX6_at_16 rfl rfl ?_
        refine V_iaload (v := (σ.2.1 (6 + j) (x1).toNatClampNeg)) K.1 dX6_at_17 (shA j hj) (b2 c1 c9) rfl ?_
        refine V_goto (tgt := 22) K.1 dX6_at_18 (by decide) ?_
        exact V_top ((if_neg c1).trans (if_neg c9)) hJ1
  exact V_iret K dX6_at_22 k3
theorem m_X6_at {ω : WT} {l : Launch} {d : Nat} {σ : St} {x1 : Int32} {j : Nat} (hj : j < 4) (hWf : Wf ω) (hd : 0 ≤ d) (b2 : ¬ (x1 < 0) → ¬ ((σ.1 (64 * (2 + j) + 1)) ≤ x1) → vp_in x1 80) :
    Sp ω l yX6_at cX6_at 2 (some .int) d [.ref (ω.2.2.1 (2 + j)), .int x1] σ (rI (if (x1 < 0) then (0 : Int32) else (if ((σ.1 (64 * (2 + j) + 1)) ≤ x1) then (0 : Int32) else (σ.2.1 (6 + j) (x1).toNatClampNeg))) σ) :=
  Sp.of (by decide) (Nat.le_of_ble_eq_true rfl) hWf (fun κ K => R_X6_at_0 hj K b2 ⟨rfl, rfl⟩)
set_option maxRecDepth 20000 in
theorem R_X6_store_0 {ω : WT} {κ : KT} {l : Launch} {d : Nat} {post : Option Value → St → Prop} {σ : St} {x1 x2 : Int32} {j : Nat} (hj : j < 4) (K : Cm ω κ l yX6_store cX6_store 3 d none post)
    (k1 : (x1 < 0) → post none σ)
    (k2 : ¬ (x1 < 0) → ((σ.1 (64 * (2 + j) + 1)) ≤ x1) → post none σ)
    (b4 : ¬ (x1 < 0) → ¬ ((σ.1 (64 * (2 + j) + 1)) ≤ x1) → vp_in x1 80)
    (k5 : ¬ (x1 < 0) → ¬ ((σ.1 (64 * (2 + j) + 1)) ≤ x1) → post none (pA σ (6 + j) (x1).toNatClampNeg (if ((σ.1 (64 * (2 + j) + 2)) = 0) then (x2).toInt8.toInt32 else (if ((σ.1 (64 * (2 + j) + 2)) = (1 : Int32)) then (x2).toInt16.toInt32 else x2)))) :
    V ω κ 0 [(0, .ref (ω.2.2.1 (2 + j))), (1, .int x1), (2, .int x2)] [] σ := by
  refine V_iload_n 1 K.1 dX6_store_0 rfl rfl ?_
  refine V_if_lt (tgt := 44) K.1 dX6_store_1 (by decide) (fun c1 => ?_) (fun c1 => ?_)
  · exact V_vret K dX6_store_44 (k1 c1)
  · refine V_iload_n 1 K.1 dX6_store_4 rfl rfl ?_
    refine V_aload_n 0 K.1 dX6_store_5 rfl rfl ?_
    refine V_get (v := .int (σ.1 (64 * (2 + j) + 1))) K.1 dX6_store_6 (shO j hj) rfl fw_X6_15 rfl rfl ?_
    refine V_icmp_ge (tgt := 44) K.1 dX6_store_9 (by decide) (fun c9 => ?_) (fun c9 => ?_)
    · exact V_vret K dX6_store_44 (k2 c1 c9)
    · refine V_aload_n 0 K.1 dX6_store_12 rfl rfl ?_
      refine V_get (v := .ref (ω.2.2.1 (6 + j))) K.1 dX6_store_13 (shO j hj) rfl fw_X6_9 rfl rfl ?_
      refine V_iload_n 1 K.1 dX6_store_16 rfl rfl ?_
      refine V_aload_n 0 K.1 dX6_store_17 rfl rfl ?_
      refine V_get (v := .int (σ.1 (64 * (2 + j) + 2))) K.1 dX6_store_18 (shO j hj) rfl fw_X6_25 rfl rfl ?_
      refine V_join (J := 43) (S := [.int x1, .ref (ω.2.2.1 (6 + j))]) (v := .int (if ((σ.1 (64 * (2 + j) + 2)) = 0) then (x2).toInt8.toInt32 else (if ((σ.1 (64 * (2 + j) + 2)) = (1 : Int32)) then (x2).toInt16.toInt32 else x2))) (fun hJ3 => ?_) ?_
      · refine V_if_ne (tgt := 29) K.1 dX6_store_21 (by decide) (fun c21 => ?_) (fun c21 => ?_)
        · refine V_aload_n 0 K.1 dX6_store_29 rfl rfl ?_
          refine V_get (v := .int (σ.1 (64 * (2 + j) + 2))) K.1 dX6_store_30 (shO j hj) rfl fw_X6_25 rfl rfl ?_
          refine V_iconst (v := 1) K.1 dX6_store_33 (by decide) ?_
          refine V_icmp_ne (tgt := 42) K.1 dX6_store_34 (by decide) (fun c34 => ?_) (fun c34 => ?_)
          · refine V_iload_n 2 K.1 dX6_store_42 rfl rfl ?_
            exact V_top ((if_neg c21).trans (if_neg c34)) hJ3
          · refine V_iload_n 2 K.1 dX6_store_37 rfl rfl ?_
            refine V_i2s K.1 dX6_store_38 ?_
            refine V_goto (tgt := 43) K.1 dX6_store_39 (by decide) ?_
            exact V_top ((if_neg c21).trans (if_pos c34)) hJ3
        · refine V_iload_n 2 K.1 dX6_store_24 rfl rfl ?_
          refine V_i2b K.1 dX6_store_25 ?_
          refine V_goto (tgt := 43) K.1 dX6_store_26 (by decide) ?_
          exact V_top (if_pos c21) hJ3
      refine V_iastore K.1 dX6_store_43 (shA j hj) (b4 c1 c9) ?_
      exact V_vret K dX6_store_44 (k5 c1 c9)
theorem m_X6_store {ω : WT} {l : Launch} {d : Nat} {σ : St} {x1 x2 : Int32} {j : Nat} (hj : j < 4) (hWf : Wf ω) (hd : 0 ≤ d) (b4 : ¬ (x1 < 0) → ¬ ((σ.1 (64 * (2 + j) + 1)) ≤ x1) → vp_in x1 80) :
    Sp ω l yX6_store cX6_store 3 none d [.ref (ω.2.2.1 (2 + j)), .int x1, .int x2] σ (rV (if (x1 < 0) then σ else (if ((σ.1 (64 * (2 + j) + 1)) ≤ x1) then σ else (pA σ (6 + j) (x1).toNatClampNeg (if ((σ.1 (64 * (2 + j) + 2)) = 0) then (x2).toInt8.toInt32 else (if ((σ.1 (64 * (2 + j) + 2)) = (1 : Int32)) then (x2).toInt16.toInt32 else x2)))))) :=
  Sp.of (by decide) (Nat.le_of_ble_eq_true rfl) hWf (fun κ K => R_X6_store_0 hj K (fun c1 => ⟨rfl, ((if_pos c1)).symm⟩) (fun c1 c9 => ⟨rfl, (((if_neg c1).trans (if_pos c9))).symm⟩) b4 (fun c1 c9 => ⟨rfl, (((if_neg c1).trans (if_neg c9))).symm⟩))
set_option maxRecDepth 20000 in
theorem R_X7_stands_0 {ω : WT} {κ : KT} {l : Launch} {d : Nat} {post : Option Value → St → Prop} {σ : St}  (K : Cm ω κ l yX7_stands cX7_stands 1 d (some .boolean) post)
    (k2 : post (some (.int (if ((σ.1 640) ≤ 0) then (0 : Int32) else (1 : Int32)))) σ) :
    V ω κ 0 [(0, .ref (ω.2.2.1 10))] [] σ := by
  refine V_aload_n 0 K.1 dX7_stands_0 rfl rfl ?_
  refine V_get (v := .int (σ.1 640)) K.1 dX7_stands_1 rfl rfl fw_X7_21 rfl rfl ?_
  refine V_join (J := 12) (S := []) (v := .int (if ((σ.1 640) ≤ 0) then (0 : Int32) else (1 : Int32))) (fun hJ1 => ?_) ?_
  · refine V_if_le (tgt := 11) K.1 dX7_stands_4 (by decide) (fun c4 => ?_) (fun c4 => ?_)
    · refine V_iconst (v := 0) K.1 dX7_stands_11 (by decide) ?_
      exact V_top (if_pos c4) hJ1
    · refine V_iconst (v := 1) K.1 dX7_stands_7 (by decide) ?_
      refine V_goto (tgt := 12) K.1 dX7_stands_8 (by decide) ?_
      exact V_top (if_neg c4) hJ1
  exact V_zret K dX7_stands_12 (by (repeat' split) <;> first | exact Or.inl rfl | exact Or.inr rfl) k2
theorem m_X7_stands {ω : WT} {l : Launch} {d : Nat} {σ : St}  (hWf : Wf ω) (hd : 0 ≤ d) :
    Sp ω l yX7_stands cX7_stands 1 (some .boolean) d [.ref (ω.2.2.1 10)] σ (rI (if ((σ.1 640) ≤ 0) then (0 : Int32) else (1 : Int32)) σ) :=
  Sp.of (by decide) (Nat.le_of_ble_eq_true rfl) hWf (fun κ K => R_X7_stands_0  K ⟨rfl, rfl⟩)
set_option maxRecDepth 20000 in
theorem R_X7_hasOne_0 {ω : WT} {κ : KT} {l : Launch} {d : Nat} {post : Option Value → St → Prop} {σ : St} {x1 : Int32}  (K : Cm ω κ l yX7_hasOne cX7_hasOne 2 d (some .boolean) post)
    (k2 : post (some (.int (if (x1 < 0) then (0 : Int32) else (if ((σ.1 640) ≤ x1) then (0 : Int32) else (1 : Int32))))) σ) :
    V ω κ 0 [(0, .ref (ω.2.2.1 10)), (1, .int x1)] [] σ := by
  refine V_iload_n 1 K.1 dX7_hasOne_0 rfl rfl ?_
  refine V_join (J := 17) (S := []) (v := .int (if (x1 < 0) then (0 : Int32) else (if ((σ.1 640) ≤ x1) then (0 : Int32) else (1 : Int32)))) (fun hJ1 => ?_) ?_
  · refine V_if_lt (tgt := 16) K.1 dX7_hasOne_1 (by decide) (fun c1 => ?_) (fun c1 => ?_)
    · refine V_iconst (v := 0) K.1 dX7_hasOne_16 (by decide) ?_
      exact V_top (if_pos c1) hJ1
    · refine V_iload_n 1 K.1 dX7_hasOne_4 rfl rfl ?_
      refine V_aload_n 0 K.1 dX7_hasOne_5 rfl rfl ?_
      refine V_get (v := .int (σ.1 640)) K.1 dX7_hasOne_6 rfl rfl fw_X7_21 rfl rfl ?_
      refine V_icmp_ge (tgt := 16) K.1 dX7_hasOne_9 (by decide) (fun c9 => ?_) (fun c9 => ?_)
      · refine V_iconst (v := 0) K.1 dX7_hasOne_16 (by decide) ?_
        exact V_top ((if_neg c1).trans (if_pos c9)) hJ1
      · refine V_iconst (v := 1) K.1 dX7_hasOne_12 (by decide) ?_
        refine V_goto (tgt := 17) K.1 dX7_hasOne_13 (by decide) ?_
        exact V_top ((if_neg c1).trans (if_neg c9)) hJ1
  exact V_zret K dX7_hasOne_17 (by (repeat' split) <;> first | exact Or.inl rfl | exact Or.inr rfl) k2
theorem m_X7_hasOne {ω : WT} {l : Launch} {d : Nat} {σ : St} {x1 : Int32}  (hWf : Wf ω) (hd : 0 ≤ d) :
    Sp ω l yX7_hasOne cX7_hasOne 2 (some .boolean) d [.ref (ω.2.2.1 10), .int x1] σ (rI (if (x1 < 0) then (0 : Int32) else (if ((σ.1 640) ≤ x1) then (0 : Int32) else (1 : Int32))) σ) :=
  Sp.of (by decide) (Nat.le_of_ble_eq_true rfl) hWf (fun κ K => R_X7_hasOne_0  K ⟨rfl, rfl⟩)
set_option maxRecDepth 20000 in
theorem R_X7_hasMatter_0 {ω : WT} {κ : KT} {l : Launch} {d : Nat} {post : Option Value → St → Prop} {σ : St} {x1 : Int32}  (K : Cm ω κ l yX7_hasMatter cX7_hasMatter 2 d (some .boolean) post)
    (k2 : post (some (.int (if (x1 < 0) then (0 : Int32) else (if ((σ.1 641) ≤ x1) then (0 : Int32) else (1 : Int32))))) σ) :
    V ω κ 0 [(0, .ref (ω.2.2.1 10)), (1, .int x1)] [] σ := by
  refine V_iload_n 1 K.1 dX7_hasMatter_0 rfl rfl ?_
  refine V_join (J := 17) (S := []) (v := .int (if (x1 < 0) then (0 : Int32) else (if ((σ.1 641) ≤ x1) then (0 : Int32) else (1 : Int32)))) (fun hJ1 => ?_) ?_
  · refine V_if_lt (tgt := 16) K.1 dX7_hasMatter_1 (by decide) (fun c1 => ?_) (fun c1 => ?_)
    · refine V_iconst (v := 0) K.1 dX7_hasMatter_16 (by decide) ?_
      exact V_top (if_pos c1) hJ1
    · refine V_iload_n 1 K.1 dX7_hasMatter_4 rfl rfl ?_
      refine V_aload_n 0 K.1 dX7_hasMatter_5 rfl rfl ?_
      refine V_get (v := .int (σ.1 641)) K.1 dX7_hasMatter_6 rfl rfl fw_X7_25 rfl rfl ?_
      refine V_icmp_ge (tgt := 16) K.1 dX7_hasMatter_9 (by decide) (fun c9 => ?_) (fun c9 => ?_)
      · refine V_iconst (v := 0) K.1 dX7_hasMatter_16 (by decide) ?_
        exact V_top ((if_neg c1).trans (if_pos c9)) hJ1
      · refine V_iconst (v := 1) K.1 dX7_hasMatter_12 (by decide) ?_
        refine V_goto (tgt := 17) K.1 dX7_hasMatter_13 (by decide) ?_
        exact V_top ((if_neg c1).trans (if_neg c9)) hJ1
  exact V_zret K dX7_hasMatter_17 (by (repeat' split) <;> first | exact Or.inl rfl | exact Or.inr rfl) k2
theorem m_X7_hasMatter {ω : WT} {l : Launch} {d : Nat} {σ : St} {x1 : Int32}  (hWf : Wf ω) (hd : 0 ≤ d) :
    Sp ω l yX7_hasMatter cX7_hasMatter 2 (some .boolean) d [.ref (ω.2.2.1 10), .int x1] σ (rI (if (x1 < 0) then (0 : Int32) else (if ((σ.1 641) ≤ x1) then (0 : Int32) else (1 : Int32))) σ) :=
  Sp.of (by decide) (Nat.le_of_ble_eq_true rfl) hWf (fun κ K => R_X7_hasMatter_0  K ⟨rfl, rfl⟩)
set_option maxRecDepth 20000 in
theorem R_X7_everybody_0 {ω : WT} {κ : KT} {l : Launch} {d : Nat} {post : Option Value → St → Prop} {σ : St}  (K : Cm ω κ l yX7_everybody cX7_everybody 1 d (some .int) post)
    (k1 : post (some (.int (((1 : Int32) <<< ((σ.1 640) &&& 31)) - (1 : Int32)))) σ) :
    V ω κ 0 [(0, .ref (ω.2.2.1 10))] [] σ := by
  refine V_iconst (v := 1) K.1 dX7_everybody_0 (by decide) ?_
  refine V_aload_n 0 K.1 dX7_everybody_1 rfl rfl ?_
  refine V_get (v := .int (σ.1 640)) K.1 dX7_everybody_2 rfl rfl fw_X7_21 rfl rfl ?_
  refine V_ishl K.1 dX7_everybody_5 ?_
  refine V_iconst (v := 1) K.1 dX7_everybody_6 (by decide) ?_
  refine V_isub K.1 dX7_everybody_7 ?_
  exact V_iret K dX7_everybody_8 k1
theorem m_X7_everybody {ω : WT} {l : Launch} {d : Nat} {σ : St}  (hWf : Wf ω) (hd : 0 ≤ d) :
    Sp ω l yX7_everybody cX7_everybody 1 (some .int) d [.ref (ω.2.2.1 10)] σ (rI (((1 : Int32) <<< ((σ.1 640) &&& 31)) - (1 : Int32)) σ) :=
  Sp.of (by decide) (Nat.le_of_ble_eq_true rfl) hWf (fun κ K => R_X7_everybody_0  K ⟨rfl, rfl⟩)
set_option maxRecDepth 20000 in
theorem R_X7_wishesYes_0 {ω : WT} {κ : KT} {l : Launch} {d : Nat} {post : Option Value → St → Prop} {σ : St} {x1 x2 : Int32}  (K : Cm ω κ l yX7_wishesYes cX7_wishesYes 3 d (some .boolean) post)
    (b1 : vp_in x2 6)
    (k3 : post (some (.int (if ((((σ.2.1 12 (x2).toNatClampNeg) >>> (x1 &&& 31)) &&& (1 : Int32)) = 0) then (0 : Int32) else (1 : Int32)))) σ) :
    V ω κ 0 [(0, .ref (ω.2.2.1 10)), (1, .int x1), (2, .int x2)] [] σ := by
  refine V_aload_n 0 K.1 dX7_wishesYes_0 rfl rfl ?_
  refine V_get (v := .ref (ω.2.2.1 12)) K.1 dX7_wishesYes_1 rfl rfl fw_X7_15 rfl rfl ?_
  refine V_iload_n 2 K.1 dX7_wishesYes_4 rfl rfl ?_
  refine V_iaload (v := (σ.2.1 12 (x2).toNatClampNeg)) K.1 dX7_wishesYes_5 rfl b1 rfl ?_
  refine V_iload_n 1 K.1 dX7_wishesYes_6 rfl rfl ?_
  refine V_ishr K.1 dX7_wishesYes_7 ?_
  refine V_iconst (v := 1) K.1 dX7_wishesYes_8 (by decide) ?_
  refine V_iand K.1 dX7_wishesYes_9 ?_
  refine V_join (J := 18) (S := []) (v := .int (if ((((σ.2.1 12 (x2).toNatClampNeg) >>> (x1 &&& 31)) &&& (1 : Int32)) = 0) then (0 : Int32) else (1 : Int32))) (fun hJ2 => ?_) ?_
  · refine V_if_eq (tgt := 17) K.1 dX7_wishesYes_10 (by decide) (fun c10 => ?_) (fun c10 => ?_)
    · refine V_iconst (v := 0) K.1 dX7_wishesYes_17 (by decide) ?_
      exact V_top (if_pos c10) hJ2
    · refine V_iconst (v := 1) K.1 dX7_wishesYes_13 (by decide) ?_
      refine V_goto (tgt := 18) K.1 dX7_wishesYes_14 (by decide) ?_
      exact V_top (if_neg c10) hJ2
  exact V_zret K dX7_wishesYes_18 (by (repeat' split) <;> first | exact Or.inl rfl | exact Or.inr rfl) k3
theorem m_X7_wishesYes {ω : WT} {l : Launch} {d : Nat} {σ : St} {x1 x2 : Int32}  (hWf : Wf ω) (hd : 0 ≤ d) (b1 : vp_in x2 6) :
    Sp ω l yX7_wishesYes cX7_wishesYes 3 (some .boolean) d [.ref (ω.2.2.1 10), .int x1, .int x2] σ (rI (if ((((σ.2.1 12 (x2).toNatClampNeg) >>> (x1 &&& 31)) &&& (1 : Int32)) = 0) then (0 : Int32) else (1 : Int32)) σ) :=
  Sp.of (by decide) (Nat.le_of_ble_eq_true rfl) hWf (fun κ K => R_X7_wishesYes_0  K b1 ⟨rfl, rfl⟩)
set_option maxRecDepth 20000 in
theorem R_X7_isDigitOfMatters_0 {ω : WT} {κ : KT} {l : Launch} {d : Nat} {post : Option Value → St → Prop} {σ : St} {x0 : Int32}  (K : Cm ω κ l yX7_isDigitOfMatters cX7_isDigitOfMatters 1 d (some .boolean) post)
    (k2 : post (some (.int (if (x0 < (49 : Int32)) then (0 : Int32) else (if ((54 : Int32) < x0) then (0 : Int32) else (1 : Int32))))) σ) :
    V ω κ 0 [(0, .int x0)] [] σ := by
  refine V_iload_n 0 K.1 dX7_isDigitOfMatters_0 rfl rfl ?_
  refine V_bipush (v := 49) K.1 dX7_isDigitOfMatters_1 (by decide) ?_
  refine V_join (J := 17) (S := []) (v := .int (if (x0 < (49 : Int32)) then (0 : Int32) else (if ((54 : Int32) < x0) then (0 : Int32) else (1 : Int32)))) (fun hJ1 => ?_) ?_
  · refine V_icmp_lt (tgt := 16) K.1 dX7_isDigitOfMatters_3 (by decide) (fun c3 => ?_) (fun c3 => ?_)
    · refine V_iconst (v := 0) K.1 dX7_isDigitOfMatters_16 (by decide) ?_
      exact V_top (if_pos c3) hJ1
    · refine V_iload_n 0 K.1 dX7_isDigitOfMatters_6 rfl rfl ?_
      refine V_bipush (v := 54) K.1 dX7_isDigitOfMatters_7 (by decide) ?_
      refine V_icmp_gt (tgt := 16) K.1 dX7_isDigitOfMatters_9 (by decide) (fun c9 => ?_) (fun c9 => ?_)
      · refine V_iconst (v := 0) K.1 dX7_isDigitOfMatters_16 (by decide) ?_
        exact V_top ((if_neg c3).trans (if_pos c9)) hJ1
      · refine V_iconst (v := 1) K.1 dX7_isDigitOfMatters_12 (by decide) ?_
        refine V_goto (tgt := 17) K.1 dX7_isDigitOfMatters_13 (by decide) ?_
        exact V_top ((if_neg c3).trans (if_neg c9)) hJ1
  exact V_zret K dX7_isDigitOfMatters_17 (by (repeat' split) <;> first | exact Or.inl rfl | exact Or.inr rfl) k2
theorem m_X7_isDigitOfMatters {ω : WT} {l : Launch} {d : Nat} {σ : St} {x0 : Int32}  (hWf : Wf ω) (hd : 0 ≤ d) :
    Sp ω l yX7_isDigitOfMatters cX7_isDigitOfMatters 1 (some .boolean) d [.int x0] σ (rI (if (x0 < (49 : Int32)) then (0 : Int32) else (if ((54 : Int32) < x0) then (0 : Int32) else (1 : Int32))) σ) :=
  Sp.of (by decide) (Nat.le_of_ble_eq_true rfl) hWf (fun κ K => R_X7_isDigitOfMatters_0  K ⟨rfl, rfl⟩)
set_option maxRecDepth 20000 in
theorem R_X7_kindOf_0 {ω : WT} {κ : KT} {l : Launch} {d : Nat} {post : Option Value → St → Prop} {σ : St} {x0 : Int32}  (K : Cm ω κ l yX7_kindOf cX7_kindOf 1 d (some .int) post)
    (k1 : (x0 = 99) → post (some (.int (2 : Int32))) σ)
    (k2 : ¬ (x0 = 99) → (x0 = 102) → post (some (.int (1 : Int32))) σ)
    (k3 : ¬ (x0 = 99) → ¬ (x0 = 102) → (x0 = 104) → post (some (.int (0 : Int32))) σ)
    (k4 : ¬ (x0 = 99) → ¬ (x0 = 102) → ¬ (x0 = 104) → post (some (.int (-1 : Int32))) σ) :
    V ω κ 0 [(0, .int x0)] [] σ := by
  refine V_iload_n 0 K.1 dX7_kindOf_0 rfl rfl ?_
  by_cases c1_99 : x0 = 99
  · refine V_lookup (off := 39) (tgt := 40) K.1 dX7_kindOf_1 (by decide) (by rw [c1_99]; decide) (by decide) ?_
    refine V_iconst (v := 2) K.1 dX7_kindOf_40 (by decide) ?_
    exact V_iret K dX7_kindOf_41 (k1 c1_99)
  by_cases c1_102 : x0 = 102
  · refine V_lookup (off := 37) (tgt := 38) K.1 dX7_kindOf_1 (by decide) (by rw [c1_102]; decide) (by decide) ?_
    refine V_iconst (v := 1) K.1 dX7_kindOf_38 (by decide) ?_
    exact V_iret K dX7_kindOf_39 (k2 c1_99 c1_102)
  by_cases c1_104 : x0 = 104
  · refine V_lookup (off := 35) (tgt := 36) K.1 dX7_kindOf_1 (by decide) (by rw [c1_104]; decide) (by decide) ?_
    refine V_iconst (v := 0) K.1 dX7_kindOf_36 (by decide) ?_
    exact V_iret K dX7_kindOf_37 (k3 c1_99 c1_102 c1_104)
  refine V_lookup (off := 41) (tgt := 42) K.1 dX7_kindOf_1 (by decide) (by show Op.lookupswitch.offset [(99, 39), (102, 37), (104, 35)] 41 _ = _; rw [lv_osw c1_99 (by decide), lv_osw c1_102 (by decide), lv_osw c1_104 (by decide)]; rfl) (by decide) ?_
  refine V_iconst (v := -1) K.1 dX7_kindOf_42 (by decide) ?_
  exact V_iret K dX7_kindOf_43 (k4 c1_99 c1_102 c1_104)
theorem m_X7_kindOf {ω : WT} {l : Launch} {d : Nat} {σ : St} {x0 : Int32}  (hWf : Wf ω) (hd : 0 ≤ d) :
    Sp ω l yX7_kindOf cX7_kindOf 1 (some .int) d [.int x0] σ (rI (if (x0 = 99) then (2 : Int32) else (if (x0 = 102) then (1 : Int32) else (if (x0 = 104) then (0 : Int32) else (-1 : Int32)))) σ) :=
  Sp.of (by decide) (Nat.le_of_ble_eq_true rfl) hWf (fun κ K => R_X7_kindOf_0  K (fun c1_99 => ⟨congrArg (fun z => some (Value.int z)) ((if_pos c1_99)).symm, rfl⟩) (fun c1_99 c1_102 => ⟨congrArg (fun z => some (Value.int z)) (((if_neg c1_99).trans (if_pos c1_102))).symm, rfl⟩) (fun c1_99 c1_102 c1_104 => ⟨congrArg (fun z => some (Value.int z)) ((((if_neg c1_99).trans (if_neg c1_102)).trans (if_pos c1_104))).symm, rfl⟩) (fun c1_99 c1_102 c1_104 => ⟨congrArg (fun z => some (Value.int z)) ((((if_neg c1_99).trans (if_neg c1_102)).trans (if_neg c1_104))).symm, rfl⟩))
set_option maxRecDepth 20000 in
theorem R_X7_goesOn_0 {ω : WT} {κ : KT} {l : Launch} {d : Nat} {post : Option Value → St → Prop} {σ : St} {x0 x1 : Int32}  (K : Cm ω κ l yX7_goesOn cX7_goesOn 2 d (some .boolean) post) (hdp : 1 ≤ d)
    (k2 : (x0 = 0) → post (some (.int (if (x1 = (59 : Int32)) then (1 : Int32) else (0 : Int32)))) σ)
    (z4 : ¬ (x0 = 0) → (x0 = 1) → (if ((if (x1 = 99) then (2 : Int32) else (if (x1 = 102) then (1 : Int32) else (if (x1 = 104) then (0 : Int32) else (-1 : Int32)))) < 0) then (0 : Int32) else (1 : Int32)) = 0 ∨ (if ((if (x1 = 99) then (2 : Int32) else (if (x1 = 102) then (1 : Int32) else (if (x1 = 104) then (0 : Int32) else (-1 : Int32)))) < 0) then (0 : Int32) else (1 : Int32)) = 1)
    (k5 : ¬ (x0 = 0) → (x0 = 1) → post (some (.int (if ((if (x1 = 99) then (2 : Int32) else (if (x1 = 102) then (1 : Int32) else (if (x1 = 104) then (0 : Int32) else (-1 : Int32)))) < 0) then (0 : Int32) else (1 : Int32)))) σ)
    (k7 : ¬ (x0 = 0) → ¬ (x0 = 1) → post (some (.int (if (x1 = (121 : Int32)) then (1 : Int32) else (if (x1 = (110 : Int32)) then (1 : Int32) else (0 : Int32))))) σ) :
    V ω κ 0 [(0, .int x0), (1, .int x1)] [] σ := by
  refine V_iload_n 0 K.1 dX7_goesOn_0 rfl rfl ?_
  by_cases c1_0 : x0 = 0
  · refine V_lookup (off := 27) (tgt := 28) K.1 dX7_goesOn_1 (by decide) (by rw [c1_0]; decide) (by decide) ?_
    refine V_iload_n 1 K.1 dX7_goesOn_28 rfl rfl ?_
    refine V_bipush (v := 59) K.1 dX7_goesOn_29 (by decide) ?_
    refine V_join (J := 39) (S := []) (v := .int (if (x1 = (59 : Int32)) then (1 : Int32) else (0 : Int32))) (fun hJ1 => ?_) ?_
    · refine V_icmp_ne (tgt := 38) K.1 dX7_goesOn_31 (by decide) (fun c31 => ?_) (fun c31 => ?_)
      · refine V_iconst (v := 0) K.1 dX7_goesOn_38 (by decide) ?_
        exact V_top (if_neg c31) hJ1
      · refine V_iconst (v := 1) K.1 dX7_goesOn_34 (by decide) ?_
        refine V_goto (tgt := 39) K.1 dX7_goesOn_35 (by decide) ?_
        exact V_top (if_pos c31) hJ1
    exact V_zret K dX7_goesOn_39 (by (repeat' split) <;> first | exact Or.inl rfl | exact Or.inr rfl) (k2 c1_0)
  by_cases c1_1 : x0 = 1
  · refine V_lookup (off := 39) (tgt := 40) K.1 dX7_goesOn_1 (by decide) (by rw [c1_1]; decide) (by decide) ?_
    refine V_iload_n 1 K.1 dX7_goesOn_40 rfl rfl ?_
    refine V_callS (d' := d - 1) (As := [.int x1]) K.1 dX7_goesOn_41 cw_X7_45 rfl (by omega) rfl (by simp [Value.category]) (m_X7_kindOf K.1.wf (by omega)) (go_I ?_)
    refine V_join (J := 52) (S := []) (v := .int (if ((if (x1 = 99) then (2 : Int32) else (if (x1 = 102) then (1 : Int32) else (if (x1 = 104) then (0 : Int32) else (-1 : Int32)))) < 0) then (0 : Int32) else (1 : Int32))) (fun hJ3 => ?_) ?_
    · refine V_if_lt (tgt := 51) K.1 dX7_goesOn_44 (by decide) (fun c44 => ?_) (fun c44 => ?_)
      · refine V_iconst (v := 0) K.1 dX7_goesOn_51 (by decide) ?_
        exact V_top (if_pos c44) hJ3
      · refine V_iconst (v := 1) K.1 dX7_goesOn_47 (by decide) ?_
        refine V_goto (tgt := 52) K.1 dX7_goesOn_48 (by decide) ?_
        exact V_top (if_neg c44) hJ3
    exact V_zret K dX7_goesOn_52 (z4 c1_0 c1_1) (k5 c1_0 c1_1)
  refine V_lookup (off := 52) (tgt := 53) K.1 dX7_goesOn_1 (by decide) (by show Op.lookupswitch.offset [(0, 27), (1, 39)] 52 _ = _; rw [lv_osw c1_0 (by decide), lv_osw c1_1 (by decide)]; rfl) (by decide) ?_
  refine V_iload_n 1 K.1 dX7_goesOn_53 rfl rfl ?_
  refine V_bipush (v := 121) K.1 dX7_goesOn_54 (by decide) ?_
  refine V_join (J := 70) (S := []) (v := .int (if (x1 = (121 : Int32)) then (1 : Int32) else (if (x1 = (110 : Int32)) then (1 : Int32) else (0 : Int32)))) (fun hJ6 => ?_) ?_
  · refine V_icmp_eq (tgt := 65) K.1 dX7_goesOn_56 (by decide) (fun c56 => ?_) (fun c56 => ?_)
    · refine V_iconst (v := 1) K.1 dX7_goesOn_65 (by decide) ?_
      refine V_goto (tgt := 70) K.1 dX7_goesOn_66 (by decide) ?_
      exact V_top (if_pos c56) hJ6
    · refine V_iload_n 1 K.1 dX7_goesOn_59 rfl rfl ?_
      refine V_bipush (v := 110) K.1 dX7_goesOn_60 (by decide) ?_
      refine V_icmp_ne (tgt := 69) K.1 dX7_goesOn_62 (by decide) (fun c62 => ?_) (fun c62 => ?_)
      · refine V_iconst (v := 0) K.1 dX7_goesOn_69 (by decide) ?_
        exact V_top ((if_neg c56).trans (if_neg c62)) hJ6
      · refine V_iconst (v := 1) K.1 dX7_goesOn_65 (by decide) ?_
        refine V_goto (tgt := 70) K.1 dX7_goesOn_66 (by decide) ?_
        exact V_top ((if_neg c56).trans (if_pos c62)) hJ6
  exact V_zret K dX7_goesOn_70 (by (repeat' split) <;> first | exact Or.inl rfl | exact Or.inr rfl) (k7 c1_0 c1_1)
theorem m_X7_goesOn {ω : WT} {l : Launch} {d : Nat} {σ : St} {x0 x1 : Int32}  (hWf : Wf ω) (hd : 1 ≤ d) (z4 : ¬ (x0 = 0) → (x0 = 1) → (if ((if (x1 = 99) then (2 : Int32) else (if (x1 = 102) then (1 : Int32) else (if (x1 = 104) then (0 : Int32) else (-1 : Int32)))) < 0) then (0 : Int32) else (1 : Int32)) = 0 ∨ (if ((if (x1 = 99) then (2 : Int32) else (if (x1 = 102) then (1 : Int32) else (if (x1 = 104) then (0 : Int32) else (-1 : Int32)))) < 0) then (0 : Int32) else (1 : Int32)) = 1) :
    Sp ω l yX7_goesOn cX7_goesOn 2 (some .boolean) d [.int x0, .int x1] σ (rI (if (x0 = 0) then (if (x1 = (59 : Int32)) then (1 : Int32) else (0 : Int32)) else (if (x0 = 1) then (if ((if (x1 = 99) then (2 : Int32) else (if (x1 = 102) then (1 : Int32) else (if (x1 = 104) then (0 : Int32) else (-1 : Int32)))) < 0) then (0 : Int32) else (1 : Int32)) else (if (x1 = (121 : Int32)) then (1 : Int32) else (if (x1 = (110 : Int32)) then (1 : Int32) else (0 : Int32))))) σ) :=
  Sp.of (by decide) (Nat.le_of_ble_eq_true rfl) hWf (fun κ K => R_X7_goesOn_0  K hd (fun c1_0 => ⟨congrArg (fun z => some (Value.int z)) ((if_pos c1_0)).symm, rfl⟩) z4 (fun c1_0 c1_1 => ⟨congrArg (fun z => some (Value.int z)) (((if_neg c1_0).trans (if_pos c1_1))).symm, rfl⟩) (fun c1_0 c1_1 => ⟨congrArg (fun z => some (Value.int z)) (((if_neg c1_0).trans (if_neg c1_1))).symm, rfl⟩))
set_option maxRecDepth 20000 in
theorem R_X7_settle_0 {ω : WT} {κ : KT} {l : Launch} {d : Nat} {post : Option Value → St → Prop} {σ : St} {x1 : Int32}  (K : Cm ω κ l yX7_settle cX7_settle 2 d none post)
    (b1 : vp_in (σ.1 640) 8)
    (k2 : (x1 = 0) → ¬ (x1 = (2 : Int32)) → post none (pA σ 11 ((σ.1 640)).toNatClampNeg x1))
    (k3 : (x1 = 0) → (x1 = (2 : Int32)) → post none (pS (pA σ 11 ((σ.1 640)).toNatClampNeg x1) 645 ((σ.1 645) ||| ((1 : Int32) <<< ((σ.1 640) &&& 31)))))
    (k4 : ¬ (x1 = 0) → ¬ (x1 = (2 : Int32)) → post none (pS (pA σ 11 ((σ.1 640)).toNatClampNeg x1) 646 ((σ.1 646) ||| ((1 : Int32) <<< ((σ.1 640) &&& 31)))))
    (k5 : ¬ (x1 = 0) → (x1 = (2 : Int32)) → post none (pS (pS (pA σ 11 ((σ.1 640)).toNatClampNeg x1) 646 ((σ.1 646) ||| ((1 : Int32) <<< ((σ.1 640) &&& 31)))) 645 ((σ.1 645) ||| ((1 : Int32) <<< ((σ.1 640) &&& 31))))) :
    V ω κ 0 [(0, .ref (ω.2.2.1 10)), (1, .int x1)] [] σ := by
  refine V_aload_n 0 K.1 dX7_settle_0 rfl rfl ?_
  refine V_get (v := .ref (ω.2.2.1 11)) K.1 dX7_settle_1 rfl rfl fw_X7_9 rfl rfl ?_
  refine V_aload_n 0 K.1 dX7_settle_4 rfl rfl ?_
  refine V_get (v := .int (σ.1 640)) K.1 dX7_settle_5 rfl rfl fw_X7_21 rfl rfl ?_
  refine V_iload_n 1 K.1 dX7_settle_8 rfl rfl ?_
  refine V_iastore K.1 dX7_settle_9 rfl b1 ?_
  refine V_iload_n 1 K.1 dX7_settle_10 rfl rfl ?_
  refine V_if_eq (tgt := 29) K.1 dX7_settle_11 (by decide) (fun c11 => ?_) (fun c11 => ?_)
  · refine V_iload_n 1 K.1 dX7_settle_29 rfl rfl ?_
    refine V_iconst (v := 2) K.1 dX7_settle_30 (by decide) ?_
    refine V_icmp_ne (tgt := 49) K.1 dX7_settle_31 (by decide) (fun c31 => ?_) (fun c31 => ?_)
    · exact V_vret K dX7_settle_49 (k2 c11 c31)
    · refine V_aload_n 0 K.1 dX7_settle_34 rfl rfl ?_
      refine V_dup K.1 dX7_settle_35 rfl ?_
      refine V_get (v := .int (σ.1 645)) K.1 dX7_settle_36 rfl rfl fw_X7_67 rfl rfl ?_
      refine V_iconst (v := 1) K.1 dX7_settle_39 (by decide) ?_
      refine V_aload_n 0 K.1 dX7_settle_40 rfl rfl ?_
      refine V_get (v := .int (σ.1 640)) K.1 dX7_settle_41 rfl rfl fw_X7_21 rfl rfl ?_
      refine V_ishl K.1 dX7_settle_44 ?_
      refine V_ior K.1 dX7_settle_45 ?_
      refine V_putI (key := 645) K.1 dX7_settle_46 rfl rfl fw_X7_67 pw_X7_5 rfl rfl rfl rfl ?_
      exact V_vret K dX7_settle_49 (k3 c11 c31)
  · refine V_aload_n 0 K.1 dX7_settle_14 rfl rfl ?_
    refine V_dup K.1 dX7_settle_15 rfl ?_
    refine V_get (v := .int (σ.1 646)) K.1 dX7_settle_16 rfl rfl fw_X7_70 rfl rfl ?_
    refine V_iconst (v := 1) K.1 dX7_settle_19 (by decide) ?_
    refine V_aload_n 0 K.1 dX7_settle_20 rfl rfl ?_
    refine V_get (v := .int (σ.1 640)) K.1 dX7_settle_21 rfl rfl fw_X7_21 rfl rfl ?_
    refine V_ishl K.1 dX7_settle_24 ?_
    refine V_ior K.1 dX7_settle_25 ?_
    refine V_putI (key := 646) K.1 dX7_settle_26 rfl rfl fw_X7_70 pw_X7_6 rfl rfl rfl rfl ?_
    refine V_iload_n 1 K.1 dX7_settle_29 rfl rfl ?_
    refine V_iconst (v := 2) K.1 dX7_settle_30 (by decide) ?_
    refine V_icmp_ne (tgt := 49) K.1 dX7_settle_31 (by decide) (fun c31 => ?_) (fun c31 => ?_)
    · exact V_vret K dX7_settle_49 (k4 c11 c31)
    · refine V_aload_n 0 K.1 dX7_settle_34 rfl rfl ?_
      refine V_dup K.1 dX7_settle_35 rfl ?_
      refine V_get (v := .int (σ.1 645)) K.1 dX7_settle_36 rfl rfl fw_X7_67 rfl rfl ?_
      refine V_iconst (v := 1) K.1 dX7_settle_39 (by decide) ?_
      refine V_aload_n 0 K.1 dX7_settle_40 rfl rfl ?_
      refine V_get (v := .int (σ.1 640)) K.1 dX7_settle_41 rfl rfl fw_X7_21 rfl rfl ?_
      refine V_ishl K.1 dX7_settle_44 ?_
      refine V_ior K.1 dX7_settle_45 ?_
      refine V_putI (key := 645) K.1 dX7_settle_46 rfl rfl fw_X7_67 pw_X7_5 rfl rfl rfl rfl ?_
      exact V_vret K dX7_settle_49 (k5 c11 c31)
theorem m_X7_settle {ω : WT} {l : Launch} {d : Nat} {σ : St} {x1 : Int32}  (hWf : Wf ω) (hd : 0 ≤ d) (b1 : vp_in (σ.1 640) 8) :
    Sp ω l yX7_settle cX7_settle 2 none d [.ref (ω.2.2.1 10), .int x1] σ (rV (if (x1 = 0) then (if (x1 = (2 : Int32)) then (pS (pA σ 11 ((σ.1 640)).toNatClampNeg x1) 645 ((σ.1 645) ||| ((1 : Int32) <<< ((σ.1 640) &&& 31)))) else (pA σ 11 ((σ.1 640)).toNatClampNeg x1)) else (if (x1 = (2 : Int32)) then (pS (pS (pA σ 11 ((σ.1 640)).toNatClampNeg x1) 646 ((σ.1 646) ||| ((1 : Int32) <<< ((σ.1 640) &&& 31)))) 645 ((σ.1 645) ||| ((1 : Int32) <<< ((σ.1 640) &&& 31)))) else (pS (pA σ 11 ((σ.1 640)).toNatClampNeg x1) 646 ((σ.1 646) ||| ((1 : Int32) <<< ((σ.1 640) &&& 31))))))) :=
  Sp.of (by decide) (Nat.le_of_ble_eq_true rfl) hWf (fun κ K => R_X7_settle_0  K b1 (fun c11 c31 => ⟨rfl, (((if_pos c11).trans (if_neg c31))).symm⟩) (fun c11 c31 => ⟨rfl, (((if_pos c11).trans (if_pos c31))).symm⟩) (fun c11 c31 => ⟨rfl, (((if_neg c11).trans (if_neg c31))).symm⟩) (fun c11 c31 => ⟨rfl, (((if_neg c11).trans (if_pos c31))).symm⟩))
set_option maxRecDepth 20000 in
theorem R_X2_useRules_0 {ω : WT} {κ : KT} {l : Launch} {d : Nat} {post : Option Value → St → Prop} {σ : St} {x1 x2 : Int32}  (K : Cm ω κ l yX2_useRules cX2_useRules 3 d none post)
    (k1 : post none (pS (pS σ 897 x1) 898 x2)) :
    V ω κ 0 [(0, .ref (ω.2.2.1 14)), (1, .int x1), (2, .int x2)] [] σ := by
  refine V_aload_n 0 K.1 dX2_useRules_0 rfl rfl ?_
  refine V_iload_n 1 K.1 dX2_useRules_1 rfl rfl ?_
  refine V_putI (key := 897) K.1 dX2_useRules_2 rfl rfl fw_X2_15 pw_X2_1 rfl rfl rfl rfl ?_
  refine V_aload_n 0 K.1 dX2_useRules_5 rfl rfl ?_
  refine V_iload_n 2 K.1 dX2_useRules_6 rfl rfl ?_
  refine V_putI (key := 898) K.1 dX2_useRules_7 rfl rfl fw_X2_19 pw_X2_2 rfl rfl rfl rfl ?_
  exact V_vret K dX2_useRules_10 k1
theorem m_X2_useRules {ω : WT} {l : Launch} {d : Nat} {σ : St} {x1 x2 : Int32}  (hWf : Wf ω) (hd : 0 ≤ d) :
    Sp ω l yX2_useRules cX2_useRules 3 none d [.ref (ω.2.2.1 14), .int x1, .int x2] σ (rV (pS (pS σ 897 x1) 898 x2)) :=
  Sp.of (by decide) (Nat.le_of_ble_eq_true rfl) hWf (fun κ K => R_X2_useRules_0  K ⟨rfl, rfl⟩)
set_option maxRecDepth 20000 in
theorem R_X2_useOwnRules_0 {ω : WT} {κ : KT} {l : Launch} {d : Nat} {post : Option Value → St → Prop} {σ : St}  (K : Cm ω κ l yX2_useOwnRules cX2_useOwnRules 1 d none post) (hdp : 1 ≤ d)
    (k1 : post none (pS (pS σ 897 (σ.1 642)) 898 (σ.1 643))) :
    V ω κ 0 [(0, .ref (ω.2.2.1 14))] [] σ := by
  refine V_aload_n 0 K.1 dX2_useOwnRules_0 rfl rfl ?_
  refine V_aload_n 0 K.1 dX2_useOwnRules_1 rfl rfl ?_
  refine V_get (v := .ref (ω.2.2.1 10)) K.1 dX2_useOwnRules_2 rfl rfl fw_X2_9 rfl rfl ?_
  refine V_get (v := .int (σ.1 642)) K.1 dX2_useOwnRules_5 rfl rfl fw_X2_22 rfl rfl ?_
  refine V_aload_n 0 K.1 dX2_useOwnRules_8 rfl rfl ?_
  refine V_get (v := .ref (ω.2.2.1 10)) K.1 dX2_useOwnRules_9 rfl rfl fw_X2_9 rfl rfl ?_
  refine V_get (v := .int (σ.1 643)) K.1 dX2_useOwnRules_12 rfl rfl fw_X2_25 rfl rfl ?_
  refine V_callV (d' := d - 1) (As := [.int (σ.1 642), .int (σ.1 643)]) K.1 dX2_useOwnRules_15 cw_X2_26 rfl rfl rfl (by omega) rfl (by simp [Value.category]) (m_X2_useRules K.1.wf (by omega)) (go_V ?_)
  exact V_vret K dX2_useOwnRules_18 k1
theorem m_X2_useOwnRules {ω : WT} {l : Launch} {d : Nat} {σ : St}  (hWf : Wf ω) (hd : 1 ≤ d) :
    Sp ω l yX2_useOwnRules cX2_useOwnRules 1 none d [.ref (ω.2.2.1 14)] σ (rV (pS (pS σ 897 (σ.1 642)) 898 (σ.1 643))) :=
  Sp.of (by decide) (Nat.le_of_ble_eq_true rfl) hWf (fun κ K => R_X2_useOwnRules_0  K hd ⟨rfl, rfl⟩)
set_option maxRecDepth 20000 in
theorem R_X2_sittingAt_0 {ω : WT} {κ : KT} {l : Launch} {d : Nat} {post : Option Value → St → Prop} {σ : St} {x0 : Int32}  (K : Cm ω κ l yX2_sittingAt cX2_sittingAt 1 d (some .int) post)
    (k1 : post (some (.int (x0 &&& (255 : Int32)))) σ) :
    V ω κ 0 [(0, .int x0)] [] σ := by
  refine V_iload_n 0 K.1 dX2_sittingAt_0 rfl rfl ?_
  refine V_sipush (v := 255) K.1 dX2_sittingAt_1 (by decide) ?_
  refine V_iand K.1 dX2_sittingAt_4 ?_
  exact V_iret K dX2_sittingAt_5 k1
theorem m_X2_sittingAt {ω : WT} {l : Launch} {d : Nat} {σ : St} {x0 : Int32}  (hWf : Wf ω) (hd : 0 ≤ d) :
    Sp ω l yX2_sittingAt cX2_sittingAt 1 (some .int) d [.int x0] σ (rI (x0 &&& (255 : Int32)) σ) :=
  Sp.of (by decide) (Nat.le_of_ble_eq_true rfl) hWf (fun κ K => R_X2_sittingAt_0  K ⟨rfl, rfl⟩)
set_option maxRecDepth 20000 in
theorem R_X2_seatsFor_0 {ω : WT} {κ : KT} {l : Launch} {d : Nat} {post : Option Value → St → Prop} {σ : St} {x1 x2 : Int32}  (K : Cm ω κ l yX2_seatsFor cX2_seatsFor 3 d (some .int) post)
    (k1 : ((σ.1 897) = 0) → post (some (.int (x1 - x2))) σ)
    (k2 : ¬ ((σ.1 897) = 0) → ((σ.1 897) = 1) → post (some (.int x1)) σ)
    (k3 : ¬ ((σ.1 897) = 0) → ¬ ((σ.1 897) = 1) → ((σ.1 897) = 2) → post (some (.int x2)) σ)
    (k4 : ¬ ((σ.1 897) = 0) → ¬ ((σ.1 897) = 1) → ¬ ((σ.1 897) = 2) → post (some (.int ((2 : Int32) * (x1 - x2)))) σ) :
    V ω κ 0 [(0, .ref (ω.2.2.1 14)), (1, .int x1), (2, .int x2)] [] σ := by
  refine V_aload_n 0 K.1 dX2_seatsFor_0 rfl rfl ?_
  refine V_get (v := .int (σ.1 897)) K.1 dX2_seatsFor_1 rfl rfl fw_X2_15 rfl rfl ?_
  by_cases c4_0 : (σ.1 897) = 0
  · refine V_tableIn (off := 28) (tgt := 32) K.1 dX2_seatsFor_4 (by rw [c4_0]; decide) (by rw [c4_0]; decide) (by rw [c4_0]; decide) (by decide) ?_
    refine V_iload_n 1 K.1 dX2_seatsFor_32 rfl rfl ?_
    refine V_iload_n 2 K.1 dX2_seatsFor_33 rfl rfl ?_
    refine V_isub K.1 dX2_seatsFor_34 ?_
    exact V_iret K dX2_seatsFor_35 (k1 c4_0)
  by_cases c4_1 : (σ.1 897) = 1
  · refine V_tableIn (off := 32) (tgt := 36) K.1 dX2_seatsFor_4 (by rw [c4_1]; decide) (by rw [c4_1]; decide) (by rw [c4_1]; decide) (by decide) ?_
    refine V_iload_n 1 K.1 dX2_seatsFor_36 rfl rfl ?_
    exact V_iret K dX2_seatsFor_37 (k2 c4_0 c4_1)
  by_cases c4_2 : (σ.1 897) = 2
  · refine V_tableIn (off := 34) (tgt := 38) K.1 dX2_seatsFor_4 (by rw [c4_2]; decide) (by rw [c4_2]; decide) (by rw [c4_2]; decide) (by decide) ?_
    refine V_iload_n 2 K.1 dX2_seatsFor_38 rfl rfl ?_
    exact V_iret K dX2_seatsFor_39 (k3 c4_0 c4_1 c4_2)
  refine V_tableOut (tgt := 40) K.1 dX2_seatsFor_4 (by have q0 := lv_neT c4_0 (a := 0) (by decide); have q1 := lv_neT c4_1 (a := 1) (by decide); have q2 := lv_neT c4_2 (a := 2) (by decide); omega) (by decide) ?_
  refine V_iconst (v := 2) K.1 dX2_seatsFor_40 (by decide) ?_
  refine V_iload_n 1 K.1 dX2_seatsFor_41 rfl rfl ?_
  refine V_iload_n 2 K.1 dX2_seatsFor_42 rfl rfl ?_
  refine V_isub K.1 dX2_seatsFor_43 ?_
  refine V_imul K.1 dX2_seatsFor_44 ?_
  exact V_iret K dX2_seatsFor_45 (k4 c4_0 c4_1 c4_2)
theorem m_X2_seatsFor {ω : WT} {l : Launch} {d : Nat} {σ : St} {x1 x2 : Int32}  (hWf : Wf ω) (hd : 0 ≤ d) :
    Sp ω l yX2_seatsFor cX2_seatsFor 3 (some .int) d [.ref (ω.2.2.1 14), .int x1, .int x2] σ (rI (if ((σ.1 897) = 0) then (x1 - x2) else (if ((σ.1 897) = 1) then x1 else (if ((σ.1 897) = 2) then x2 else ((2 : Int32) * (x1 - x2))))) σ) :=
  Sp.of (by decide) (Nat.le_of_ble_eq_true rfl) hWf (fun κ K => R_X2_seatsFor_0  K (fun c4_0 => ⟨congrArg (fun z => some (Value.int z)) ((if_pos c4_0)).symm, rfl⟩) (fun c4_0 c4_1 => ⟨congrArg (fun z => some (Value.int z)) (((if_neg c4_0).trans (if_pos c4_1))).symm, rfl⟩) (fun c4_0 c4_1 c4_2 => ⟨congrArg (fun z => some (Value.int z)) ((((if_neg c4_0).trans (if_neg c4_1)).trans (if_pos c4_2))).symm, rfl⟩) (fun c4_0 c4_1 c4_2 => ⟨congrArg (fun z => some (Value.int z)) ((((if_neg c4_0).trans (if_neg c4_1)).trans (if_neg c4_2))).symm, rfl⟩))
set_option maxRecDepth 20000 in
theorem R_X1_isFewer_0 {ω : WT} {κ : KT} {l : Launch} {d : Nat} {post : Option Value → St → Prop} {σ : St} {x0 x1 : Int32}  (K : Cm ω κ l yX1_isFewer cX1_isFewer 2 d (some .boolean) post)
    (k2 : post (some (.int (if (x1 = (-1 : Int32)) then (1 : Int32) else (if (x1 ≤ x0) then (0 : Int32) else (1 : Int32))))) σ) :
    V ω κ 0 [(0, .int x0), (1, .int x1)] [] σ := by
  refine V_iload_n 1 K.1 dX1_isFewer_0 rfl rfl ?_
  refine V_iconst (v := -1) K.1 dX1_isFewer_1 (by decide) ?_
  refine V_join (J := 15) (S := []) (v := .int (if (x1 = (-1 : Int32)) then (1 : Int32) else (if (x1 ≤ x0) then (0 : Int32) else (1 : Int32)))) (fun hJ1 => ?_) ?_
  · refine V_icmp_eq (tgt := 10) K.1 dX1_isFewer_2 (by decide) (fun c2 => ?_) (fun c2 => ?_)
    · refine V_iconst (v := 1) K.1 dX1_isFewer_10 (by decide) ?_
      refine V_goto (tgt := 15) K.1 dX1_isFewer_11 (by decide) ?_
      exact V_top (if_pos c2) hJ1
    · refine V_iload_n 0 K.1 dX1_isFewer_5 rfl rfl ?_
      refine V_iload_n 1 K.1 dX1_isFewer_6 rfl rfl ?_
      refine V_icmp_ge (tgt := 14) K.1 dX1_isFewer_7 (by decide) (fun c7 => ?_) (fun c7 => ?_)
      · refine V_iconst (v := 0) K.1 dX1_isFewer_14 (by decide) ?_
        exact V_top ((if_neg c2).trans (if_pos c7)) hJ1
      · refine V_iconst (v := 1) K.1 dX1_isFewer_10 (by decide) ?_
        refine V_goto (tgt := 15) K.1 dX1_isFewer_11 (by decide) ?_
        exact V_top ((if_neg c2).trans (if_neg c7)) hJ1
  exact V_zret K dX1_isFewer_15 (by (repeat' split) <;> first | exact Or.inl rfl | exact Or.inr rfl) k2
theorem m_X1_isFewer {ω : WT} {l : Launch} {d : Nat} {σ : St} {x0 x1 : Int32}  (hWf : Wf ω) (hd : 0 ≤ d) :
    Sp ω l yX1_isFewer cX1_isFewer 2 (some .boolean) d [.int x0, .int x1] σ (rI (if (x1 = (-1 : Int32)) then (1 : Int32) else (if (x1 ≤ x0) then (0 : Int32) else (1 : Int32))) σ) :=
  Sp.of (by decide) (Nat.le_of_ble_eq_true rfl) hWf (fun κ K => R_X1_isFewer_0  K ⟨rfl, rfl⟩)
set_option maxRecDepth 20000 in
theorem R_X8_isSheet_0 {ω : WT} {κ : KT} {l : Launch} {d : Nat} {post : Option Value → St → Prop} {σ : St} {x0 : Int32}  (K : Cm ω κ l yX8_isSheet cX8_isSheet 1 d (some .boolean) post)
    (k2 : post (some (.int (if (x0 < 0) then (0 : Int32) else (if ((4 : Int32) ≤ x0) then (0 : Int32) else (1 : Int32))))) σ) :
    V ω κ 0 [(0, .int x0)] [] σ := by
  refine V_iload_n 0 K.1 dX8_isSheet_0 rfl rfl ?_
  refine V_join (J := 14) (S := []) (v := .int (if (x0 < 0) then (0 : Int32) else (if ((4 : Int32) ≤ x0) then (0 : Int32) else (1 : Int32)))) (fun hJ1 => ?_) ?_
  · refine V_if_lt (tgt := 13) K.1 dX8_isSheet_1 (by decide) (fun c1 => ?_) (fun c1 => ?_)
    · refine V_iconst (v := 0) K.1 dX8_isSheet_13 (by decide) ?_
      exact V_top (if_pos c1) hJ1
    · refine V_iload_n 0 K.1 dX8_isSheet_4 rfl rfl ?_
      refine V_iconst (v := 4) K.1 dX8_isSheet_5 (by decide) ?_
      refine V_icmp_ge (tgt := 13) K.1 dX8_isSheet_6 (by decide) (fun c6 => ?_) (fun c6 => ?_)
      · refine V_iconst (v := 0) K.1 dX8_isSheet_13 (by decide) ?_
        exact V_top ((if_neg c1).trans (if_pos c6)) hJ1
      · refine V_iconst (v := 1) K.1 dX8_isSheet_9 (by decide) ?_
        refine V_goto (tgt := 14) K.1 dX8_isSheet_10 (by decide) ?_
        exact V_top ((if_neg c1).trans (if_neg c6)) hJ1
  exact V_zret K dX8_isSheet_14 (by (repeat' split) <;> first | exact Or.inl rfl | exact Or.inr rfl) k2
theorem m_X8_isSheet {ω : WT} {l : Launch} {d : Nat} {σ : St} {x0 : Int32}  (hWf : Wf ω) (hd : 0 ≤ d) :
    Sp ω l yX8_isSheet cX8_isSheet 1 (some .boolean) d [.int x0] σ (rI (if (x0 < 0) then (0 : Int32) else (if ((4 : Int32) ≤ x0) then (0 : Int32) else (1 : Int32))) σ) :=
  Sp.of (by decide) (Nat.le_of_ble_eq_true rfl) hWf (fun κ K => R_X8_isSheet_0  K ⟨rfl, rfl⟩)
set_option maxRecDepth 20000 in
theorem R_X8_isSort_0 {ω : WT} {κ : KT} {l : Launch} {d : Nat} {post : Option Value → St → Prop} {σ : St} {x0 : Int32}  (K : Cm ω κ l yX8_isSort cX8_isSort 1 d (some .boolean) post)
    (k2 : post (some (.int (if (x0 < 0) then (0 : Int32) else (if ((3 : Int32) ≤ x0) then (0 : Int32) else (1 : Int32))))) σ) :
    V ω κ 0 [(0, .int x0)] [] σ := by
  refine V_iload_n 0 K.1 dX8_isSort_0 rfl rfl ?_
  refine V_join (J := 14) (S := []) (v := .int (if (x0 < 0) then (0 : Int32) else (if ((3 : Int32) ≤ x0) then (0 : Int32) else (1 : Int32)))) (fun hJ1 => ?_) ?_
  · refine V_if_lt (tgt := 13) K.1 dX8_isSort_1 (by decide) (fun c1 => ?_) (fun c1 => ?_)
    · refine V_iconst (v := 0) K.1 dX8_isSort_13 (by decide) ?_
      exact V_top (if_pos c1) hJ1
    · refine V_iload_n 0 K.1 dX8_isSort_4 rfl rfl ?_
      refine V_iconst (v := 3) K.1 dX8_isSort_5 (by decide) ?_
      refine V_icmp_ge (tgt := 13) K.1 dX8_isSort_6 (by decide) (fun c6 => ?_) (fun c6 => ?_)
      · refine V_iconst (v := 0) K.1 dX8_isSort_13 (by decide) ?_
        exact V_top ((if_neg c1).trans (if_pos c6)) hJ1
      · refine V_iconst (v := 1) K.1 dX8_isSort_9 (by decide) ?_
        refine V_goto (tgt := 14) K.1 dX8_isSort_10 (by decide) ?_
        exact V_top ((if_neg c1).trans (if_neg c6)) hJ1
  exact V_zret K dX8_isSort_14 (by (repeat' split) <;> first | exact Or.inl rfl | exact Or.inr rfl) k2
theorem m_X8_isSort {ω : WT} {l : Launch} {d : Nat} {σ : St} {x0 : Int32}  (hWf : Wf ω) (hd : 0 ≤ d) :
    Sp ω l yX8_isSort cX8_isSort 1 (some .boolean) d [.int x0] σ (rI (if (x0 < 0) then (0 : Int32) else (if ((3 : Int32) ≤ x0) then (0 : Int32) else (1 : Int32))) σ) :=
  Sp.of (by decide) (Nat.le_of_ble_eq_true rfl) hWf (fun κ K => R_X8_isSort_0  K ⟨rfl, rfl⟩)
set_option maxRecDepth 20000 in
theorem R_X8_ruleBit_0 {ω : WT} {κ : KT} {l : Launch} {d : Nat} {post : Option Value → St → Prop} {σ : St} {x0 x1 : Int32}  (K : Cm ω κ l yX8_ruleBit cX8_ruleBit 2 d (some .int) post)
    (k1 : post (some (.int ((1 : Int32) <<< ((((3 : Int32) * x0) + x1) &&& 31)))) σ) :
    V ω κ 0 [(0, .int x0), (1, .int x1)] [] σ := by
  refine V_iconst (v := 1) K.1 dX8_ruleBit_0 (by decide) ?_
  refine V_iconst (v := 3) K.1 dX8_ruleBit_1 (by decide) ?_
  refine V_iload_n 0 K.1 dX8_ruleBit_2 rfl rfl ?_
  refine V_imul K.1 dX8_ruleBit_3 ?_
  refine V_iload_n 1 K.1 dX8_ruleBit_4 rfl rfl ?_
  refine V_iadd K.1 dX8_ruleBit_5 ?_
  refine V_ishl K.1 dX8_ruleBit_6 ?_
  exact V_iret K dX8_ruleBit_7 k1
theorem m_X8_ruleBit {ω : WT} {l : Launch} {d : Nat} {σ : St} {x0 x1 : Int32}  (hWf : Wf ω) (hd : 0 ≤ d) :
    Sp ω l yX8_ruleBit cX8_ruleBit 2 (some .int) d [.int x0, .int x1] σ (rI ((1 : Int32) <<< ((((3 : Int32) * x0) + x1) &&& 31)) σ) :=
  Sp.of (by decide) (Nat.le_of_ble_eq_true rfl) hWf (fun κ K => R_X8_ruleBit_0  K ⟨rfl, rfl⟩)
set_option maxRecDepth 20000 in
theorem R_X8_failed_0 {ω : WT} {κ : KT} {l : Launch} {d : Nat} {post : Option Value → St → Prop} {σ : St} {x1 : Int32}  (K : Cm ω κ l yX8_failed cX8_failed 2 d (some .int) post)
    (k1 : post (some (.int ((-10 : Int32) - x1))) (pS σ 9 x1)) :
    V ω κ 0 [(0, .ref (ω.2.2.1 0)), (1, .int x1)] [] σ := by
  refine V_aload_n 0 K.1 dX8_failed_0 rfl rfl ?_
  refine V_iload_n 1 K.1 dX8_failed_1 rfl rfl ?_
  refine V_putI (key := 9) K.1 dX8_failed_2 rfl rfl fw_X8_220 pw_X8_9 rfl rfl rfl rfl ?_
  refine V_bipush (v := -10) K.1 dX8_failed_5 (by decide) ?_
  refine V_iload_n 1 K.1 dX8_failed_7 rfl rfl ?_
  refine V_isub K.1 dX8_failed_8 ?_
  exact V_iret K dX8_failed_9 k1
theorem m_X8_failed {ω : WT} {l : Launch} {d : Nat} {σ : St} {x1 : Int32}  (hWf : Wf ω) (hd : 0 ≤ d) :
    Sp ω l yX8_failed cX8_failed 2 (some .int) d [.ref (ω.2.2.1 0), .int x1] σ (rI ((-10 : Int32) - x1) (pS σ 9 x1)) :=
  Sp.of (by decide) (Nat.le_of_ble_eq_true rfl) hWf (fun κ K => R_X8_failed_0  K ⟨rfl, rfl⟩)
set_option maxRecDepth 20000 in
theorem R_X8_leave_0 {ω : WT} {κ : KT} {l : Launch} {d : Nat} {post : Option Value → St → Prop} {σ : St} {x1 : Int32}  (K : Cm ω κ l yX8_leave cX8_leave 2 d none post)
    (k1 : post none (pS σ 8 (((31 : Int32) * (σ.1 8)) + x1))) :
    V ω κ 0 [(0, .ref (ω.2.2.1 0)), (1, .int x1)] [] σ := by
  refine V_aload_n 0 K.1 dX8_leave_0 rfl rfl ?_
  refine V_bipush (v := 31) K.1 dX8_leave_1 (by decide) ?_
  refine V_aload_n 0 K.1 dX8_leave_3 rfl rfl ?_
  refine V_get (v := .int (σ.1 8)) K.1 dX8_leave_4 rfl rfl fw_X8_275 rfl rfl ?_
  refine V_imul K.1 dX8_leave_7 ?_
  refine V_iload_n 1 K.1 dX8_leave_8 rfl rfl ?_
  refine V_iadd K.1 dX8_leave_9 ?_
  refine V_putI (key := 8) K.1 dX8_leave_10 rfl rfl fw_X8_275 pw_X8_8 rfl rfl rfl rfl ?_
  exact V_vret K dX8_leave_13 k1
theorem m_X8_leave {ω : WT} {l : Launch} {d : Nat} {σ : St} {x1 : Int32}  (hWf : Wf ω) (hd : 0 ≤ d) :
    Sp ω l yX8_leave cX8_leave 2 none d [.ref (ω.2.2.1 0), .int x1] σ (rV (pS σ 8 (((31 : Int32) * (σ.1 8)) + x1))) :=
  Sp.of (by decide) (Nat.le_of_ble_eq_true rfl) hWf (fun κ K => R_X8_leave_0  K ⟨rfl, rfl⟩)
set_option maxRecDepth 20000 in
theorem R_J9_max_7cf53_0 {ω : WT} {κ : KT} {l : Launch} {d : Nat} {post : Option Value → St → Prop} {σ : St} {x0 x1 : Int32}  (K : Cm ω κ l yJ9_max_7cf53 cJ9_max_7cf53 2 d (some .int) post)
    (k2 : post (some (.int (if (x0 < x1) then x1 else x0))) σ) :
    V ω κ 0 [(0, .int x0), (1, .int x1)] [] σ := by
  refine V_iload_n 0 K.1 dJ9_max_7cf53_0 rfl rfl ?_
  refine V_iload_n 1 K.1 dJ9_max_7cf53_1 rfl rfl ?_
  refine V_join (J := 10) (S := []) (v := .int (if (x0 < x1) then x1 else x0)) (fun hJ1 => ?_) ?_
  · refine V_icmp_lt (tgt := 9) K.1 dJ9_max_7cf53_2 (by decide) (fun c2 => ?_) (fun c2 => ?_)
    · refine V_iload_n 1 K.1 dJ9_max_7cf53_9 rfl rfl ?_
      exact V_top (if_pos c2) hJ1
    · refine V_iload_n 0 K.1 dJ9_max_7cf53_5 rfl rfl ?_
      refine V_goto (tgt := 10) K.1 dJ9_max_7cf53_6 (by decide) ?_
      exact V_top (if_neg c2) hJ1
  exact V_iret K dJ9_max_7cf53_10 k2
theorem m_J9_max_7cf53 {ω : WT} {l : Launch} {d : Nat} {σ : St} {x0 x1 : Int32}  (hWf : Wf ω) (hd : 0 ≤ d) :
    Sp ω l yJ9_max_7cf53 cJ9_max_7cf53 2 (some .int) d [.int x0, .int x1] σ (rI (if (x0 < x1) then x1 else x0) σ) :=
  Sp.ofF (by decide +kernel) (Nat.le_of_ble_eq_true rfl) hWf (fun κ K => R_J9_max_7cf53_0  K ⟨rfl, rfl⟩)
set_option maxRecDepth 20000 in
theorem R_J9_min_7cf53_0 {ω : WT} {κ : KT} {l : Launch} {d : Nat} {post : Option Value → St → Prop} {σ : St} {x0 x1 : Int32}  (K : Cm ω κ l yJ9_min_7cf53 cJ9_min_7cf53 2 d (some .int) post)
    (k2 : post (some (.int (if (x1 < x0) then x1 else x0))) σ) :
    V ω κ 0 [(0, .int x0), (1, .int x1)] [] σ := by
  refine V_iload_n 0 K.1 dJ9_min_7cf53_0 rfl rfl ?_
  refine V_iload_n 1 K.1 dJ9_min_7cf53_1 rfl rfl ?_
  refine V_join (J := 10) (S := []) (v := .int (if (x1 < x0) then x1 else x0)) (fun hJ1 => ?_) ?_
  · refine V_icmp_gt (tgt := 9) K.1 dJ9_min_7cf53_2 (by decide) (fun c2 => ?_) (fun c2 => ?_)
    · refine V_iload_n 1 K.1 dJ9_min_7cf53_9 rfl rfl ?_
      exact V_top (if_pos c2) hJ1
    · refine V_iload_n 0 K.1 dJ9_min_7cf53_5 rfl rfl ?_
      refine V_goto (tgt := 10) K.1 dJ9_min_7cf53_6 (by decide) ?_
      exact V_top (if_neg c2) hJ1
  exact V_iret K dJ9_min_7cf53_10 k2
theorem m_J9_min_7cf53 {ω : WT} {l : Launch} {d : Nat} {σ : St} {x0 x1 : Int32}  (hWf : Wf ω) (hd : 0 ≤ d) :
    Sp ω l yJ9_min_7cf53 cJ9_min_7cf53 2 (some .int) d [.int x0, .int x1] σ (rI (if (x1 < x0) then x1 else x0) σ) :=
  Sp.ofF (by decide +kernel) (Nat.le_of_ble_eq_true rfl) hWf (fun κ K => R_J9_min_7cf53_0  K ⟨rfl, rfl⟩)
set_option maxRecDepth 20000 in
theorem R_X2_opening_0 {ω : WT} {κ : KT} {l : Launch} {d : Nat} {post : Option Value → St → Prop} {σ : St}  (K : Cm ω κ l yX2_opening cX2_opening 1 d (some .int) post) (hdp : 1 ≤ d)
    (k1 : post (some (.int (((if (((σ.1 640) - (1 : Int32)) < (0 : Int32)) then (0 : Int32) else ((σ.1 640) - (1 : Int32))) * (256 : Int32)) + (((1 : Int32) <<< ((σ.1 640) &&& 31)) - (1 : Int32))))) σ) :
    V ω κ 0 [(0, .ref (ω.2.2.1 14))] [] σ := by
  refine V_aload_n 0 K.1 dX2_opening_0 rfl rfl ?_
  refine V_get (v := .ref (ω.2.2.1 10)) K.1 dX2_opening_1 rfl rfl fw_X2_9 rfl rfl ?_
  refine V_get (v := .int (σ.1 640)) K.1 dX2_opening_4 rfl rfl fw_X2_30 rfl rfl ?_
  refine V_iconst (v := 1) K.1 dX2_opening_7 (by decide) ?_
  refine V_isub K.1 dX2_opening_8 ?_
  refine V_iconst (v := 0) K.1 dX2_opening_9 (by decide) ?_
  refine V_callS (d' := d - 1) (As := [.int ((σ.1 640) - (1 : Int32)), .int (0 : Int32)]) K.1 dX2_opening_10 cw_X2_33 rfl (by omega) rfl (by simp [Value.category]) (m_J9_max_7cf53 K.1.wf (by omega)) (go_I ?_)
  refine V_sipush (v := 256) K.1 dX2_opening_13 (by decide) ?_
  refine V_imul K.1 dX2_opening_16 ?_
  refine V_aload_n 0 K.1 dX2_opening_17 rfl rfl ?_
  refine V_get (v := .ref (ω.2.2.1 10)) K.1 dX2_opening_18 rfl rfl fw_X2_9 rfl rfl ?_
  refine V_callV (d' := d - 1) (As := []) K.1 dX2_opening_21 cw_X2_39 rfl rfl rfl (by omega) rfl (by simp [Value.category]) (m_X7_everybody K.1.wf (by omega)) (go_I ?_)
  refine V_iadd K.1 dX2_opening_24 ?_
  exact V_iret K dX2_opening_25 k1
theorem m_X2_opening {ω : WT} {l : Launch} {d : Nat} {σ : St}  (hWf : Wf ω) (hd : 1 ≤ d) :
    Sp ω l yX2_opening cX2_opening 1 (some .int) d [.ref (ω.2.2.1 14)] σ (rI (((if (((σ.1 640) - (1 : Int32)) < (0 : Int32)) then (0 : Int32) else ((σ.1 640) - (1 : Int32))) * (256 : Int32)) + (((1 : Int32) <<< ((σ.1 640) &&& 31)) - (1 : Int32))) σ) :=
  Sp.of (by decide) (Nat.le_of_ble_eq_true rfl) hWf (fun κ K => R_X2_opening_0  K hd ⟨rfl, rfl⟩)
