set_option maxRecDepth 20000 in
theorem R_X6_renew_0 {ω : WT} {κ : KT} {l : Launch} {d : Nat} {post : Option Value → St → Prop} {σ : St} {x1 x2 : Int32} {j : Nat} (hj : j < 4) (K : Cm ω κ l yX6_renew cX6_renew 3 d none post) (hdp : 1 ≤ d)
    (k1 : post none (pS (pS (pF σ (6 + j) (fillF (σ.2.1 (6 + j)) (0 : Int32) 80)) (64 * (2 + j) + 2) x1) (64 * (2 + j) + 1) x2)) :
    V ω κ 0 [(0, .ref (ω.2.2.1 (2 + j))), (1, .int x1), (2, .int x2)] [] σ := by
  refine V_aload_n 0 K.1 dX6_renew_0 rfl rfl ?_
  refine V_get (v := .ref (ω.2.2.1 (6 + j))) K.1 dX6_renew_1 (shO j hj) rfl fw_X6_9 rfl rfl ?_
  refine V_iconst (v := 0) K.1 dX6_renew_4 (by decide) ?_
  refine V_callS (d' := d - 1) (As := [.ref (ω.2.2.1 (6 + j)), .int (0 : Int32)]) K.1 dX6_renew_5 cw_X6_19 rfl (by omega) rfl (by simp [Value.category]) (m_J7_fill_53178 (shA j hj) K.1.wf (by omega)) (go_V ?_)
  refine V_aload_n 0 K.1 dX6_renew_8 rfl rfl ?_
  refine V_iload_n 1 K.1 dX6_renew_9 rfl rfl ?_
  refine V_putI (key := (64 * (2 + j) + 2)) K.1 dX6_renew_10 (shO j hj) rfl fw_X6_25 pw_X6_2 rfl rfl rfl rfl ?_
  refine V_aload_n 0 K.1 dX6_renew_13 rfl rfl ?_
  refine V_iload_n 2 K.1 dX6_renew_14 rfl rfl ?_
  refine V_putI (key := (64 * (2 + j) + 1)) K.1 dX6_renew_15 (shO j hj) rfl fw_X6_15 pw_X6_1 rfl rfl rfl rfl ?_
  exact V_vret K dX6_renew_18 k1
theorem m_X6_renew {ω : WT} {l : Launch} {d : Nat} {σ : St} {x1 x2 : Int32} {j : Nat} (hj : j < 4) (hWf : Wf ω) (hd : 1 ≤ d) :
    Sp ω l yX6_renew cX6_renew 3 none d [.ref (ω.2.2.1 (2 + j)), .int x1, .int x2] σ (rV (pS (pS (pF σ (6 + j) (fillF (σ.2.1 (6 + j)) (0 : Int32) 80)) (64 * (2 + j) + 2) x1) (64 * (2 + j) + 1) x2)) :=
  Sp.of (by decide) (Nat.le_of_ble_eq_true rfl) hWf (fun κ K => R_X6_renew_0 hj K hd ⟨rfl, rfl⟩)
