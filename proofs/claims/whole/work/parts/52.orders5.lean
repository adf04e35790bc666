/-! ===== orders: the call, the model's side ===== -/
section ORDERS5
variable {ω : WT} {l : Launch} {d : Nat} {a : Ab} {σ : St}
theorem fm_mem {α : Type} {f : Nat → List α} {x : α} : ∀ {n : Nat}, x ∈ fmS f n → ∃ m, m < n ∧ x ∈ f m
  | 0, h => absurd h (List.not_mem_nil)
  | n + 1, h => by
    rw [fmS, List.mem_append] at h
    rcases h with h | h
    · obtain ⟨m, h1, h2⟩ := fm_mem h
      exact ⟨m, by omega, h2⟩
    · exact ⟨n, by omega, h⟩
theorem prm_in : ∀ {k S : Nat} {p : List Nat}, S < 64 → p ∈ prm k S → p.length = k ∧ p.Nodup ∧ ∀ x, x ∈ p → S.testBit x = true
  | 0, S, p, _, h => by
    rw [prm, List.mem_singleton] at h
    subst h
    exact ⟨rfl, List.nodup_nil, fun x hx => absurd hx (List.not_mem_nil)⟩
  | k + 1, S, p, hS, h => by
    rw [prm] at h
    obtain ⟨m, hm, h2⟩ := fm_mem h
    by_cases hb : S.testBit m = true
    · rw [if_pos hb] at h2
      obtain ⟨p', hp', rfl⟩ := List.mem_map.mp h2
      have hr := rem_ok S hS m hm hb
      obtain ⟨q1, q2, q3⟩ := prm_in hr.2.1 hp'
      have hdf := dif (s := S) (y := 2 ^ m) (n := 6) hS (fun i hi => by
        rw [Nat.testBit_two_pow] at hi
        rw [← of_decide_eq_true hi]
        exact hb)
      have hx : ∀ x, x ∈ p' → S.testBit x = true ∧ ¬ m = x := fun x hx => by
        have := q3 x hx
        rw [hdf.2, bs_bit, Nat.testBit_two_pow] at this
        simp only [Bool.and_eq_true, decide_eq_true_iff, Bool.not_eq_true', decide_eq_false_iff_not] at this
        exact this.2
      refine ⟨by rw [List.length_cons, q1], List.nodup_cons.mpr ⟨fun y => (hx m y).2 rfl, q2⟩, fun x hx2 => ?_⟩
      rcases List.mem_cons.mp hx2 with y | y
      · rw [y]; exact hb
      · exact (hx x y).1
    · rw [if_neg hb] at h2
      exact absurd h2 (List.not_mem_nil)
theorem row_lt {t : Tn} {p : List Nat} (hO : TO t) (h : p ∈ allO t) {q : Nat} (hq : q < tit t) : p.getD q 0 < tnm t := by
  have hm := mtS_ok hO
  obtain ⟨q1, -, q3⟩ := prm_in hm.2.1 h
  have hmem : p.getD q 0 ∈ p := by
    rw [List.getD_eq_getElem?_getD, List.getElem?_eq_getElem (by omega)]
    exact List.getElem_mem _
  have := q3 _ hmem
  refine Classical.byContradiction fun z => ?_
  rw [Nat.testBit_lt_two_pow (Nat.lt_of_lt_of_le hm.1 (Nat.pow_le_pow_right (by omega) (by omega)))] at this
  cases this
abbrev kOrd : List Nat := [2258, 2259, 2260, 2261, 2262, 2263, 2264, 2265, 2266]
theorem keepM_loop {κ : KT} {n mt : Nat} {p : List Nat} {x2 : Int32} (hn : n ≤ 6) (h51 : σ.1 2251 = nI n) (hW : RW p n σ) {post : Option Value → St → Prop} (K : Cm ω κ l yX9_orders cX9_orders 6 d (some .int) post)
    (fin : ∀ σ', (∀ q, q < n → σ'.2.1 55 q = nI (p.getD q 0)) → Eqx [] [55] σ σ' → V ω κ 113 [(0, .ref (ω.2.2.1 35)), (1, .int (nI mt)), (2, .int x2), (3, .int (0 + 1))] [.ref (ω.2.2.1 35)] σ') :
    ∀ k i σq, i + k = n → (∀ q, q < i → σq.2.1 55 q = nI (p.getD q 0)) → Eqx [] [55] σ σq → V ω κ 76 [(0, .ref (ω.2.2.1 35)), (1, .int (nI mt)), (2, .int x2), (3, .int 0), (5, .int (nI i))] [] σq := by
  intro k
  induction k with
  | zero =>
    intro i σq h hq hE
    obtain rfl : i = n := by omega
    have hle : σq.1 2251 ≤ nI i := by rw [hE.1 2251 (by decide), h51]; exact nI_le (Nat.le_refl _) (by omega)
    exact R_X9_orders_76 K (fun _ => fin σq hq hE) (fun z_ => absurd hle z_) (fun z_ => absurd hle z_) (fun z_ => absurd hle z_) (fun z_ => absurd hle z_)
  | succ k ih =>
    intro i σq h hq hE
    have hge : ¬ σq.1 2251 ≤ nI i := by
      rw [hE.1 2251 (by decide), h51]
      exact fun z => absurd ((nI_leI (by omega) (by omega)).mp z) (by omega)
    have hin : vp_in (nI i) 6 := vp_in_nI (by omega) (by omega)
    refine R_X9_orders_76 K (fun z_ => absurd z_ hge) (fun _ z_ => absurd rfl z_) (fun _ _ => hin) (fun _ _ => hin) (fun _ _ => ?_)
    rw [nI_clamp (by omega), nI_1]
    refine ih (i + 1) _ (by omega) (fun q hq2 => ?_) (hE.pA (by simp) _ _)
    show upd (σq.2.1 55) i _ q = _
    by_cases z : q = i
    · subst z; rw [pk_us, hE.2.1 54 (by decide)]; exact hW.2.1 q (by omega)
    · rw [pk_un z]; exact hq q (by omega)
theorem ordM_step {κ : KT} {mt c : Nat} {x2 : Int32} {p : List Nat} {σq : St} (hWf : Wf ω) (hd : 6 ≤ d) (hA : AO a) (h2 : 2 ≤ tnp (att a)) (hmt : mt < 2 ^ 31) (hc : c ≤ 720) (hp : p ∈ allO (att a)) {post : Option Value → St → Prop} (K : Cm ω κ l yX9_orders cX9_orders 6 d (some .int) post) (hW : RW p (tit (att a)) σq) (hR : RM a σq)
    (kk : ∀ σ', RW p (tit (att a)) σ' → RM a σ' → EM σq σ' → (wonT (att a) mt p = false → σ'.2.1 55 = σq.2.1 55) → (wonT (att a) mt p = true → c ≠ 0 → σ'.2.1 55 = σq.2.1 55) → (wonT (att a) mt p = true → c = 0 → ∀ q, q < tit (att a) → σ'.2.1 55 q = nI (p.getD q 0)) → V ω κ 113 [(0, .ref (ω.2.2.1 35)), (1, .int (nI mt)), (2, .int x2), (3, .int (nI (c + (if wonT (att a) mt p = true then 1 else 0))))] [.ref (ω.2.2.1 35)] σ') :
    V ω κ 43 [(0, .ref (ω.2.2.1 35)), (1, .int (nI mt)), (2, .int x2), (3, .int (nI c)), (4, .int 1)] [] σq := by
  have hO := hA.1
  have hit := hO.2.2.2.2.1
  have hm := mtS_ok hO
  have hnd := (prm_in hm.2.1 hp).2.1
  refine R_X9_orders_43 K (by omega) (fun z_ => absurd z_ (by decide)) (fun z_ => absurd z_ (by decide)) (fun _ => ?_)
  have e1 : nI (tnp (att a)) - 1 = nI (tnp (att a) - 1) := by rw [show (1 : Int32) = nI 1 from rfl, pk_sub (by omega)]
  have e : pS (pS (pS (pS (pS σq 2258 (((1 : Int32) <<< (σq.1 2245 &&& 31)) - 1)) 2259 0) 2260 (σq.1 2245 - 1)) 2261 (σq.1 2249)) 2262 (σq.1 2250) = layM σq (tnp (att a)) (tme (att a)) (tla (att a)) := by
    rw [hR.1.1, hR.1.2.2.1, hR.1.2.2.2.1, nI_all hO.1, e1]
    rfl
  rw [e, hR.1.2.2.2.2.1]
  have hE1 := layM_E σq (tnp (att a)) (tme (att a)) (tla (att a))
  have hT1 := hR.1.keep hE1 (by decide) (by decide)
  have hW1 := hW.keep hE1 (by decide)
  have ho := op_ok h2
  refine C_X9_orders_61 K (by omega) (m_goRun (row := fun q => p.getD q 0) rfl (by decide) hit (fun q hq => ⟨hW1.2.1 q hq, row_lt hO hp hq⟩) hWf (by omega) hT1 hO h2 (layM_MM h2 σq _ _) ho.1 ho.2.1 rfl hO.2.2.1 rfl hO.2.2.2.1) (fun v σ1 hq => ?_)
  obtain ⟨rfl, -, q2, q3⟩ := hq
  have hE2 : Eqx kOrd [44, 45, 46, 47] σq σ1 := (hE1.mono (by decide) (by decide)).tr (q3.mono (by decide) (by decide))
  have hR1 := hR.keep hE2 (by decide) (by decide)
  have hW2 := hW.keep hE2 (by decide)
  refine R_X9_orders_64 K ?_
  refine C_X9_orders_66 K (by omega) (m_outcomeIn hWf hO hR1.1.2.2.2.2.1 hmt hW2 q2) (go_I ?_)
  have hlen : p.length = tit (att a) := hW.1
  have hwon := oiN_won (t := att a) (me := tme (att a)) (la := tla (att a)) (mt := mt) (p := p) (mo := op (att a)) hnd
  rw [hlen] at hwon
  have e55 : σ1.2.1 55 = σq.2.1 55 := hE2.2.1 55 (by decide)
  have hEM := EM.of hE2 (by decide) (by decide)
  refine R_X9_orders_69 K (fun z_ => ?_) (fun z_ => ?_)
  · have hw : wonT (att a) mt p = false := by
      cases y : wonT (att a) mt p
      · rfl
      · exact absurd (hwon.mpr y) z_
    have := kk σ1 hW2 hR1 hEM (fun _ => e55) (fun y => by rw [hw] at y; cases y) (fun y => by rw [hw] at y; cases y)
    rw [hw, if_neg (by decide), Nat.add_zero] at this
    exact this
  · have hw : wonT (att a) mt p = true := hwon.mp z_
    rw [hw, if_pos rfl] at kk
    by_cases c0 : c = 0
    · subst c0
      refine keepM_loop (σ := σ1) (p := p) hit hR1.1.2.2.2.2.1 hW2 K (fun σ2 hq hE3 => ?_) (tit (att a)) 0 σ1 (by omega) (fun q hq => absurd hq (by omega)) Eqx.rf
      exact kk σ2 (hW2.keep hE3 (by decide)) (hR1.keep hE3 (by decide) (by decide)) (hEM.tr (EM.of hE3 (by decide) (by decide))) (fun y => by cases y) (fun _ y => absurd rfl y) (fun _ _ => hq)
    · have nz : ¬ nI c = 0 := fun y => c0 ((nI_eq (b := 0) (by omega) (by decide)).mp y)
      have k2 := kk σ1 hW2 hR1 hEM (fun y => by cases y) (fun _ _ => e55) (fun _ y => absurd y c0)
      refine R_X9_orders_76 K (fun _ => by rw [nI_1]; exact k2) (fun _ _ => by rw [nI_1]; exact k2) (fun _ y_ => absurd y_ nz) (fun _ y_ => absurd y_ nz) (fun _ y_ => absurd y_ nz)
theorem ordM_loop {κ : KT} {mt : Nat} {x2 : Int32} (hWf : Wf ω) (hd : 6 ≤ d) (hA : AO a) (h2 : 2 ≤ tnp (att a)) (h1 : 1 ≤ tit (att a)) (hmt : mt < 2 ^ 31) (hx2 : x2 = -1 ∨ ∃ q, q < tit (att a) ∧ x2 = nI q) {post : Option Value → St → Prop} (K : Cm ω κ l yX9_orders cX9_orders 6 d (some .int) post)
    (fin : ∀ σ', RM a σ' → EM σ σ' → post (some (.int (ordS (att a) mt x2))) σ') :
    ∀ (r : List (List Nat)) (A : List (List Nat)) (p : List Nat) (σq : St), allO (att a) = A ++ p :: r → chL (tit (att a)) (p :: r) = true → RW p (tit (att a)) σq → (∀ f, A.find? (wonT (att a) mt) = some f → ∀ q, q < tit (att a) → σq.2.1 55 q = nI (f.getD q 0)) → RM a σq → EM σ σq → V ω κ 43 [(0, .ref (ω.2.2.1 35)), (1, .int (nI mt)), (2, .int x2), (3, .int (nI (A.countP (wonT (att a) mt)))), (4, .int 1)] [] σq := by
  intro r
  have hit := hA.1.2.2.2.2.1
  have hcl := cntO_le hA.1 (wonT (att a) mt)
  induction r with
  | nil =>
    intro A p σq hall hch hW hf hR hE
    have hcA : A.countP (wonT (att a) mt) ≤ 720 := by rw [hall, List.countP_append] at hcl; omega
    rw [chL, Bool.and_eq_true] at hch
    have hnx : nxL (tit (att a)) p = none := eq_of_beq hch.1
    refine ordM_step hWf hd hA h2 hmt hcA (by rw [hall]; simp) K hW hR (fun σ1 hW1 hR1 hE1 g1 g2 g3 => ?_)
    refine C_X9_orders_113 K (by omega) (m_nextRow hWf h1 hit (by omega) hR1.1.2.2.2.2.1 hW1) (fun v σ2 hp => ?_)
    rcases hp with ⟨-, rfl, hE2⟩ | ⟨p', q1, -⟩
    · refine R_X9_orders_116 K ?_
      have hcount : A.countP (wonT (att a) mt) + (if wonT (att a) mt p = true then 1 else 0) = (allO (att a)).countP (wonT (att a) mt) := by
        rw [hall, List.countP_append, List.countP_cons, List.countP_nil, Nat.zero_add]
      rw [hcount]
      have hR2 := hR1.keep hE2 (by decide) (by decide)
      have hEM := (hE.tr hE1).tr (EM.of hE2 (by decide) (by decide))
      have e55 : σ2.2.1 55 = σ1.2.1 55 := hE2.2.1 55 (by decide)
      have c0 : nI ((allO (att a)).countP (wonT (att a) mt)) = 0 ↔ (allO (att a)).find? (wonT (att a) mt) = none := by rw [← cnt_0]; exact nI_eq (b := 0) (by omega) (by decide)
      have hval : (if x2 = -1 then nI ((allO (att a)).countP (wonT (att a) mt)) else (if nI ((allO (att a)).countP (wonT (att a) mt)) = 0 then -9 else σ2.2.1 55 x2.toNatClampNeg)) = ordS (att a) mt x2 := by
        unfold ordS
        by_cases z : x2 = -1
        · rw [if_pos z, if_pos z]
        · rw [if_neg z, if_neg z]
          obtain ⟨q, hq, rfl⟩ := hx2.resolve_left z
          rw [nI_clamp (by omega)]
          cases ef : (allO (att a)).find? (wonT (att a) mt) with
          | none => rw [if_pos (c0.mpr ef)]
          | some f =>
            rw [if_neg (fun y => by rw [c0.mp y] at ef; cases ef), e55]
            show σ1.2.1 55 q = nI (f.getD q 0)
            rw [hall, List.find?_append] at ef
            cases eA : A.find? (wonT (att a) mt) with
            | some f' =>
              rw [eA] at ef
              have : f' = f := by simpa using ef
              subst this
              have hne : A.countP (wonT (att a) mt) ≠ 0 := fun y => by rw [cnt_0.mp y] at eA; cases eA
              have : σ1.2.1 55 = σq.2.1 55 := by
                cases y : wonT (att a) mt p
                · exact g1 y
                · exact g2 y hne
              rw [this]
              exact hf f' eA q hq
            | none =>
              rw [eA] at ef
              cases y : wonT (att a) mt p
              · rw [List.find?_cons, y] at ef
                cases ef
              · rw [List.find?_cons, y] at ef
                have : p = f := by simpa using ef
                subst this
                exact g3 y (cnt_0.mpr eA) q hq
      refine R_X9_orders_43 K (by omega) (fun _ z_ _ => ?_) (fun _ => ?_) (fun z_ => absurd rfl z_)
      · obtain ⟨q, hq, rfl⟩ := hx2.resolve_left z_
        exact vp_in_nI (by omega) (by omega)
      · rw [hval]
        exact fin σ2 hR2 hEM
    · rw [hnx] at q1
      cases q1
  | cons p1 r ih =>
    intro A p σq hall hch hW hf hR hE
    have hcA : A.countP (wonT (att a) mt) ≤ 720 := by rw [hall, List.countP_append] at hcl; omega
    rw [chL, Bool.and_eq_true] at hch
    have hnx : nxL (tit (att a)) p = some p1 := eq_of_beq hch.1
    refine ordM_step hWf hd hA h2 hmt hcA (by rw [hall]; simp) K hW hR (fun σ1 hW1 hR1 hE1 g1 g2 g3 => ?_)
    refine C_X9_orders_113 K (by omega) (m_nextRow hWf h1 hit (by omega) hR1.1.2.2.2.2.1 hW1) (fun v σ2 hp => ?_)
    rcases hp with ⟨q1, -⟩ | ⟨p', q1, rfl, hW2, hE2⟩
    · rw [hnx] at q1
      cases q1
    · rw [hnx] at q1
      cases q1
      refine R_X9_orders_116 K ?_
      have hcount : A.countP (wonT (att a) mt) + (if wonT (att a) mt p = true then 1 else 0) = (A ++ [p]).countP (wonT (att a) mt) := by
        rw [List.countP_append, List.countP_cons, List.countP_nil, Nat.zero_add]
      rw [hcount]
      have e55 : σ2.2.1 55 = σ1.2.1 55 := hE2.2.1 55 (by decide)
      refine ih (A ++ [p]) p1 σ2 (by rw [hall, List.append_assoc]; rfl) hch.2 hW2 (fun f ef q hq => ?_) (hR1.keep hE2 (by decide) (by decide)) ((hE.tr hE1).tr (EM.of hE2 (by decide) (by decide)))
      rw [e55]
      rw [List.find?_append] at ef
      cases eA : A.find? (wonT (att a) mt) with
      | some f' =>
        rw [eA] at ef
        have : f' = f := by simpa using ef
        subst this
        have hne : A.countP (wonT (att a) mt) ≠ 0 := fun y => by rw [cnt_0.mp y] at eA; cases eA
        have : σ1.2.1 55 = σq.2.1 55 := by
          cases y : wonT (att a) mt p
          · exact g1 y
          · exact g2 y hne
        rw [this]
        exact hf f' eA q hq
      | none =>
        rw [eA] at ef
        cases y : wonT (att a) mt p
        · rw [List.find?_cons, y] at ef
          cases ef
        · rw [List.find?_cons, y] at ef
          have : p = f := by simpa using ef
          subst this
          exact g3 y (cnt_0.mpr eA) q hq
theorem m1_cases {q : Int32} (h : ¬ q < -1) : q = -1 ∨ ∃ k, k < 2 ^ 31 ∧ q = nI k := by
  by_cases h0 : q < 0
  · left
    have a1 := Int32.not_lt.mp h
    apply Int32.toInt_inj.mp
    have a2 := Int32.le_iff_toInt_le.mp a1
    have a3 := Int32.lt_iff_toInt_lt.mp h0
    have b1 : (-1 : Int32).toInt = -1 := by decide
    have b2 : (0 : Int32).toInt = 0 := by decide
    omega
  · exact Or.inr (nI_of h0)
theorem d_orders {m q : Int32} (hWf : Wf ω) (hd : 6 ≤ d) (hA : AO a) (hR : RM a σ) : Sp ω l yX9_orders cX9_orders 6 (some .int) d [.ref (ω.2.2.1 35), .int m, .int q] σ (PM (o_orders a m q) a σ) := by
  refine Sp.of (by decide) (Nat.le_of_ble_eq_true rfl) hWf (fun κ K => ?_)
  have hit := hA.1.2.2.2.2.1
  have hnm := hA.1.2.1
  refine R_X9_orders_0 K (by omega) (fun h0 => ?_) (fun h0 => ?_)
  · rw [hR.1.2.1] at h0
    have ho : o_orders a m q = -1 := by simp only [o_orders, rg0 (by omega) h0]
    rw [ho]
    exact PM.at rfl hR EM.rf
  · rw [hR.1.2.1] at h0
    obtain ⟨j, hj, rfl, e⟩ := rg1 (by omega) h0
    refine C_X9_orders_10 K (by omega) (m_placeOfM hWf hR.1 hA.1 (by omega)) (go_I ?_)
    cases ep : plc (tag (att a)) j (tit (att a)) with
    | none =>
      have ho : o_orders a (nI j) q = -1 := by simp only [o_orders, e, ep]
      rw [ho] at K
      exact R_X9_orders_13 K (by omega) (fun _ => PM.at rfl hR EM.rf) (fun z_ => absurd rfl z_) (fun z_ => absurd rfl z_)
    | some p0 =>
      obtain ⟨hp0, -⟩ := plc_some ep
      have h2 := hA.1.two_q hp0
      have hm := mtS_ok hA.1
      have n9 : ¬ nI p0 = -9 := fun z => absurd (show nI p0 < 0 by rw [z]; decide) (nI_pos (by omega))
      have ho : o_orders a (nI j) q = if q < -1 ∨ ¬ q < nI (tit (att a)) then -1 else ordS (att a) j q := by simp only [o_orders, e, ep]
      have e1 : nI (tit (att a)) - 1 = nI (tit (att a) - 1) := by rw [show (1 : Int32) = nI 1 from rfl, pk_sub (by omega)]
      by_cases q1 : q < -1
      · rw [if_pos (Or.inl q1)] at ho
        rw [ho] at K
        refine R_X9_orders_13 K (by omega) (fun _ => PM.at rfl hR EM.rf) (fun _ z_ => absurd (if_pos q1) z_) (fun _ _ => PM.at rfl hR EM.rf)
      · have hlt : q < nI (tit (att a)) ↔ ¬ nI (tit (att a)) - 1 < q := by
          rw [e1]
          rcases m1_cases q1 with rfl | ⟨k, hk, rfl⟩
          · have a1 : (-1 : Int32) < nI (tit (att a)) := Int32.lt_of_lt_of_le (show (-1 : Int32) < 0 by decide) (Int32.not_lt.mp (nI_pos (by omega)))
            have a2 : ¬ nI (tit (att a) - 1) < -1 := fun y => absurd (Int32.lt_of_lt_of_le y (show (-1 : Int32) ≤ 0 by decide)) (nI_pos (by omega))
            exact ⟨fun _ => a2, fun _ => a1⟩
          · rw [nI_ltI hk (by omega), nI_ltI (by omega) hk]
            omega
        by_cases q2 : q < nI (tit (att a))
        · rw [if_neg (fun y => y.elim q1 (fun y2 => y2 q2))] at ho
          rw [ho] at K
          have n2 := hlt.mp q2
          rw [← hR.1.2.2.2.2.1] at n2
          refine R_X9_orders_13 K (by omega) (fun z_ => absurd z_ n9) (fun _ _ => ?_) (fun _ z_ => ?_)
          · refine C_X9_orders_35 K (by omega) (m_firstRow hWf (by omega) hR.1 hA.1 (by omega)) (fun v σ1 hp => ?_)
            obtain ⟨rfl, hW, hE1⟩ := hp
            refine R_X9_orders_38 K ?_
            have hR1 := hR.keep hE1 (by decide) (by decide)
            have hhd := (prm_len (mtS (att a)) hm.2.1).2.1
            have hch := chL_ok (mtS (att a)) hm.2.1
            rw [hm.2.2] at hhd hch
            cases el : allO (att a) with
            | nil =>
              have el2 : prm (tit (att a)) (mtS (att a)) = [] := el
              rw [el2] at hhd
              cases hhd
            | cons p r =>
              have el2 : prm (tit (att a)) (mtS (att a)) = p :: r := el
              rw [el2] at hhd hch
              cases hhd
              exact ordM_loop (σ := σ) hWf hd hA h2 (by omega) (show j < 2 ^ 31 by omega) (by
                rcases m1_cases q1 with y | ⟨k, hk, y⟩
                · exact Or.inl y
                · rw [y] at q2
                  exact Or.inr ⟨k, (nI_ltI hk (by omega)).mp q2, y⟩) K (fun σ' h1 h2 => PM.at rfl h1 h2) r [] (ascS (mtS (att a)) 6) σ1 el hch hW (fun f hf => by cases hf) hR1 (EM.of hE1 (by decide) (by decide))
          · rw [if_neg q1, if_neg n2] at z_
            exact absurd z_ (by decide)
        · rw [if_pos (Or.inr q2)] at ho
          rw [ho] at K
          have n2 : nI (tit (att a)) - 1 < q := Classical.byContradiction fun y => q2 (hlt.mpr y)
          rw [← hR.1.2.2.2.2.1] at n2
          exact R_X9_orders_13 K (by omega) (fun _ => PM.at rfl hR EM.rf) (fun _ z_ => absurd (by rw [if_neg q1, if_pos n2]) z_) (fun _ _ => PM.at rfl hR EM.rf)
end ORDERS5
