/-! ===== sway: the model's answer ===== -/
section SWAY8
variable {ω : WT} {l : Launch} {d : Nat} {a : Ab} {σ : St}
def FinG (t : Tn) (F : Nat) (want : Int32) (r q : Nat) (m : Nat × Nat) (c g tot : Nat) : Prop := match r with
  | 0 => (stF t F q g m).2.1 = want ∧ tot = c + cb g 8
  | r + 1 => FinF t F want r (q + 1) (stF t F q g m).2.2.2 (c + cb g 8) tot
theorem FinF_G {t : Tn} {F : Nat} {want : Int32} {r q : Nat} {m : Nat × Nat} {c tot : Nat} : FinF t F want r q m c tot ↔ ∃ g, g &&& (F &&& m.1) = g ∧ FinG t F want r q m c g tot := by
  cases r <;> exact Iff.rfl
theorem FinF_ge {t : Tn} {F : Nat} {want : Int32} : ∀ {r q : Nat} {m : Nat × Nat} {c tot : Nat}, FinF t F want r q m c tot → c ≤ tot
  | 0, _, _, _, _, ⟨g, _, _, h⟩ => by omega
  | r + 1, _, _, _, _, ⟨g, _, h⟩ => by
    have := FinF_ge h
    omega
theorem FinG_ge {t : Tn} {F : Nat} {want : Int32} {r q : Nat} {m : Nat × Nat} {c g tot : Nat} (h : FinG t F want r q m c g tot) : c + cb g 8 ≤ tot := by
  cases r with
  | zero => exact Nat.le_of_eq h.2.symm
  | succ r => exact FinF_ge h
theorem Lo.cong {S S' : Nat → Prop} {f f' : Nat} (h : Lo S f f') (e : ∀ c, S c ↔ S' c) : Lo S' f f' := ⟨h.1, h.2.1.imp id (e _).mp, fun c z => h.2.2 c ((e c).mpr z)⟩
theorem dfs {κ : KT} {t : Tn} {F : Nat} {want : Int32} {post : Option Value → St → Prop} (hWf : Wf ω) (hd : 4 ≤ d) (hT : TM t σ) (hO : TO t) (h2 : 2 ≤ tnp t) (hme : σ.1 2261 = nI (tme t)) (hla : σ.1 2262 = nI (tla t)) (hF : F < 2 ^ tnp t) (hF3 : cb F 8 ≤ 3)
    (K : Cm ω κ l yX9_findSway cX9_findSway 8 d (some .int) post) : ∀ r q m c f σq, q + r + 1 = tit t → m.1 < 2 ^ tnp t → m.2 < tnp t → c ≤ 8 * q → LvM σq q m c 0 → f ≤ 1000000 → Eqx kRun aSw σ σq →
      (∀ f' σ', f' ≤ 1000000 → Lo (FinF t F want r q m c) f f' → LowEq q σq σ' → Eqx kRun aSw σ σ' → V ω κ 16 [(0, .ref (ω.2.2.1 35)), (1, .int (nI F)), (2, .int want), (3, .int (nI f')), (4, .int (nI q + -1))] [] σ') →
      V ω κ 16 [(0, .ref (ω.2.2.1 35)), (1, .int (nI F)), (2, .int want), (3, .int (nI f)), (4, .int (nI q))] [] σq := by
  have hit := hO.2.2.2.2.1
  have hp8 := p2_le8 hO.1
  intro r
  induction r with
  | zero =>
    intro q m c f σq hqr hm1 hm2 hc hL hf hE fin
    have hC : F &&& m.1 < 2 ^ tnp t := Nat.lt_of_le_of_lt Nat.and_le_left hF
    have hC3 : cb (F &&& m.1) 8 ≤ 3 := Nat.le_trans (cb_sub (by rw [Nat.and_assoc, Nat.and_comm m.1 F, ← Nat.and_assoc, Nat.and_self]) 8) hF3
    refine dfs_in (FinG t F want 0 q m c) (fun _ _ => FinG_ge) hWf hd hT hO h2 hme hla (by omega) hF3 (by omega) hm1 hm2 (by omega) K (fun g f σ1 hlt hf hM h65 hE1 k => ?_) (2 ^ cb (F &&& m.1) 8) 0 f σq (by omega) hL hf hE (fun f' σ' hf' hLo hlow hE' => fin f' σ' hf' (hLo.cong (fun tot => ?_)) hlow hE')
    · have hT1 : TM t σ1 := hT.keep hE1 (by decide) (by decide)
      have hcg := cb_le g 8
      have hle : σ1.1 2251 - 1 ≤ nI q := by
        rw [hT1.2.2.2.2.1, show (1 : Int32) = nI 1 from rfl, pk_sub (by omega)]
        exact nI_le (by omega) (by omega)
      refine R_X9_findSway_169 K (by omega) (fun _ z => ?_) (fun _ z => ?_) (fun z_ => absurd hle z_) (fun z_ => absurd hle z_) (fun z_ => absurd hle z_) (fun z_ => absurd hle z_) (fun z_ => absurd hle z_) (fun z_ => absurd hle z_) (fun z_ => absurd hle z_)
      · rw [h65] at z
        exact k f σ1 hf (Lo.none (fun c' y => absurd y.1 z)) LowEq.rf hE1
      · rw [h65] at z
        exact k (c + cb g 8) σ1 (by omega) ⟨by omega, Or.inr ⟨z, rfl⟩, fun c' y => Nat.le_of_eq y.2.symm⟩ LowEq.rf hE1
    · rw [FinF_G]
      constructor
      · rintro ⟨k', -, -, z⟩
        exact ⟨_, gT_sub, z⟩
      · rintro ⟨g, z1, z2⟩
        obtain ⟨k', y1, rfl⟩ := gT_all (mt := tag t q) hO.1 hC hC3 z1
        exact ⟨k', by omega, y1, z2⟩
  | succ r ih =>
    intro q m c f σq hqr hm1 hm2 hc hL hf hE fin
    have hC : F &&& m.1 < 2 ^ tnp t := Nat.lt_of_le_of_lt Nat.and_le_left hF
    have hC3 : cb (F &&& m.1) 8 ≤ 3 := Nat.le_trans (cb_sub (by rw [Nat.and_assoc, Nat.and_comm m.1 F, ← Nat.and_assoc, Nat.and_self]) 8) hF3
    refine dfs_in (FinG t F want (r + 1) q m c) (fun _ _ => FinG_ge) hWf hd hT hO h2 hme hla (by omega) hF3 (by omega) hm1 hm2 (by omega) K (fun g f σ1 hlt hf hM h65 hE1 k => ?_) (2 ^ cb (F &&& m.1) 8) 0 f σq (by omega) hL hf hE (fun f' σ' hf' hLo hlow hE' => fin f' σ' hf' (hLo.cong (fun tot => ?_)) hlow hE')
    · have hT1 : TM t σ1 := hT.keep hE1 (by decide) (by decide)
      have hcg := cb_le g 8
      have hle : ¬ σ1.1 2251 - 1 ≤ nI q := by
        rw [hT1.2.2.2.2.1, show (1 : Int32) = nI 1 from rfl, pk_sub (by omega)]
        exact fun z => absurd ((nI_leI (by omega) (by omega)).mp z) (by omega)
      have hso := stepS_ok (me := tme t) (la := tla t) (kd := tkd t) (w := fun x => tws t x (tag t q) ^^ g.testBit x) (fr := F.testBit) (m := m) (show 1 ≤ tnp t by omega) hO.1 hm1 hm2
      have h59 : σ1.1 2259 = 0 ∨ σ1.1 2259 = 1 := by
        by_cases z : (stF t F q g m).2.2.2.1 = 0
        · exact Or.inr (hM.2.1 z)
        · exact Or.inl (hM.2.2 z).1
      have K2 := R_X9_findSway_169 (σ := σ1) (x1 := nI F) (x2 := want) (x3 := nI f) (x4 := nI q) (x7 := nI (c + cb g 8)) K (by omega) (fun z_ => absurd z_ hle) (fun z_ => absurd z_ hle)
      rw [nI_1, nI_clamp (by omega)] at K2
      refine K2 (fun _ => vp_in_nI (by omega) (by omega)) (fun _ => vp_in_nI (by omega) (by omega)) (fun _ => h59) (fun _ => vp_in_nI (by omega) (by omega)) (fun _ => vp_in_nI (by omega) (by omega)) (fun _ => vp_in_nI (by omega) (by omega)) (fun _ => ?_)
      refine ih (q + 1) (stF t F q g m).2.2.2 (c + cb g 8) f _ (by omega) hso.1 hso.2.1 (by omega) ?_ hf (((((hE1.pA (by simp) _ _).pA (by simp) _ _).pA (by simp) _ _).pA (by simp) _ _).pA (by simp) _ _) (fun f1 σ2 hf1 hLo hlow hE2 => ?_)
      · refine ⟨?_, fun z => ?_, fun z => ⟨?_, ?_⟩, ?_, ?_⟩
        · show upd (σ1.2.1 51) (q + 1) (σ1.1 2260) (q + 1) = _
          rw [pk_us]; exact hM.1
        · show upd (σ1.2.1 50) (q + 1) (σ1.1 2259) (q + 1) = _
          rw [pk_us]; exact hM.2.1 z
        · show upd (σ1.2.1 50) (q + 1) (σ1.1 2259) (q + 1) = _
          rw [pk_us]; exact (hM.2.2 z).1
        · show upd (σ1.2.1 49) (q + 1) (σ1.1 2258) (q + 1) = _
          rw [pk_us]; exact (hM.2.2 z).2
        · show upd (σ1.2.1 52) (q + 1) (nI (c + cb g 8)) (q + 1) = _
          rw [pk_us]
        · show upd (σ1.2.1 53) (q + 1) (-1) (q + 1) + 1 = _
          rw [pk_us]; decide
      · rw [show nI (q + 1) + -1 = nI q from by rw [nI_pr (by omega), Nat.add_sub_cancel]]
        exact k f1 σ2 hf1 hLo (((((((LowEq.rf.pA (Nat.le_refl _) _).pA (Nat.le_refl _) _).pA (Nat.le_refl _) _).pA (Nat.le_refl _) _).pA (Nat.le_refl _) _)).tr hlow) hE2
    · rw [FinF_G]
      constructor
      · rintro ⟨k', -, -, z⟩
        exact ⟨_, gT_sub, z⟩
      · rintro ⟨g, z1, z2⟩
        obtain ⟨k', y1, rfl⟩ := gT_all (mt := tag t q) hO.1 hC hC3 z1
        exact ⟨k', by omega, y1, z2⟩
theorem Fin_bd {t : Tn} {F : Nat} {want : Int32} (hO : TO t) (h2 : 2 ≤ tnp t) (hF3 : cb F 8 ≤ 3) {tot : Nat} (z : FinF t F want (tit t - 1) 0 (op t) 0 tot) : tot ≤ 1000 := by
  have hfr := (Fin_Rch (t := t) (F := F) (want := want) (tot := tot) (tit t - 1) 0)
  rw [Nat.zero_add] at hfr
  obtain ⟨m, c, z1, g, -, -, rfl⟩ := hfr.mp ⟨op t, 0, ⟨rfl, rfl⟩, z⟩
  have := (Rch_ok hO h2 hF3 _ m c z1).2
  have := cb_le g 8
  have := hO.2.2.2.2.1
  omega
theorem m_findSway {t : Tn} {F : Nat} {want : Int32} (hWf : Wf ω) (hd : 4 ≤ d) (hT : TM t σ) (hO : TO t) (h2 : 2 ≤ tnp t) (hF : F < 2 ^ tnp t) (hF3 : cb F 8 ≤ 3) : Sp ω l yX9_findSway cX9_findSway 8 (some .int) d [.ref (ω.2.2.1 35), .int (nI F), .int want] σ (fun v σ' => ∃ r, v = some (.int r) ∧ Lst (-9) (FinF t F want (tit t - 1) 0 (op t) 0) r ∧ Eqx kAll aSw σ σ') := by
  refine Sp.of (by decide) (Nat.le_of_ble_eq_true rfl) hWf (fun κ K => ?_)
  have hnp := hO.1
  have hit1 : 1 ≤ tit t := by
    rcases hO.2.2.2.2.2.2.2.2 with h | h
    · omega
    · exact h.2.2
  have hv0 : vp_in (0 : Int32) 7 := vp_in_nI (n := 0) (by decide) (by decide)
  have K2 := R_X9_findSway_0 (σ := σ) (x1 := nI F) (x2 := want) K (by omega) hv0 hv0 (Or.inl rfl) hv0 hv0 hv0
  refine K2 ?_
  have e1 : ∀ p a b c d e, p = layM σ (tnp t) (tme t) (tla t) → a = nI (2 ^ tnp t - 1) → b = (0 : Int32) → c = nI (tnp t - 1) → d = (0 : Int32) → e = (-1 : Int32) → V ω κ 16 [(0, .ref (ω.2.2.1 35)), (1, .int (nI F)), (2, .int want), (3, .int 1000000), (4, .int 0)] [] (pA (pA (pA (pA (pA p 49 0 a) 50 0 b) 51 0 c) 52 0 d) 53 0 e) := by
    rintro p a b c d e rfl rfl rfl rfl rfl rfl
    have hE0 : Eqx kAll aSw σ (pA (pA (pA (pA (pA (layM σ (tnp t) (tme t) (tla t)) 49 0 (nI (2 ^ tnp t - 1))) 50 0 0) 51 0 (nI (tnp t - 1))) 52 0 0) 53 0 (-1)) := ((((((layM_E σ _ _ _).mono (by simp) (by simp)).pA (by simp) _ _).pA (by simp) _ _).pA (by simp) _ _).pA (by simp) _ _).pA (by simp) _ _
    have hE1 := layM_E σ (tnp t) (tme t) (tla t)
    refine dfs hWf hd (hT.keep hE0 (by decide) (by decide)) hO h2 rfl rfl hF hF3 K (tit t - 1) 0 (op t) 0 1000000 _ (by omega) (op_ok h2).1 (op_ok h2).2.1 (by omega) ⟨rfl, fun z => absurd z (op_ok h2).2.2, fun _ => ⟨rfl, rfl⟩, rfl, by show (-1 : Int32) + 1 = nI 0; decide⟩ (Nat.le_refl _) Eqx.rf (fun f' σ' hf' hLo hlow hE' => ?_)
    have hneg : nI 0 + -1 < (0 : Int32) := by decide
    refine R_X9_findSway_16 K (by omega) (fun _ => ⟨_, rfl, ?_, hE0.tr (hE'.mono (by decide) (by simp))⟩) (fun z_ => absurd hneg z_) (fun z_ => absurd hneg z_) (fun z_ => absurd hneg z_) (fun z_ => absurd hneg z_) (fun z_ => absurd hneg z_) (fun z_ => absurd hneg z_) (fun z_ => absurd hneg z_) (fun z_ => absurd hneg z_) (fun z_ => absurd hneg z_) (fun z_ => absurd hneg z_)
    obtain ⟨a1, a2, a3⟩ := hLo
    by_cases z : f' = 1000000
    · subst z
      refine Or.inl ⟨if_pos rfl, fun c' y => ?_⟩
      have := a3 c' y
      have := Fin_bd hO h2 hF3 y
      omega
    · have hne : ¬ nI f' = 1000000 := fun y => z ((nI_eq (b := 1000000) (by omega) (by omega)).mp y)
      exact Or.inr ⟨f', if_neg hne, a2.resolve_left z, a3⟩
  refine e1 _ _ _ _ _ _ ?_ ?_ rfl ?_ rfl rfl
  · rw [hT.1, hT.2.2.1, hT.2.2.2.1, nI_all hnp, show (1 : Int32) = nI 1 from rfl, pk_sub (by omega)]
    rfl
  · rw [hT.1, nI_all hnp]
  · rw [hT.1, show (1 : Int32) = nI 1 from rfl, pk_sub (by omega)]
theorem swF_M {np : Nat} {x : Int32} (hnp : np ≤ 8) (h1 : ¬ x < 1) (h2 : ¬ nI (2 ^ np - 1) < x) (h3 : ¬ 3 < F_bits x 20) : ∃ F, swF np x = some F := by
  have hp8 := p2_le8 hnp
  have hp : 1 ≤ 2 ^ np := Nat.one_le_two_pow
  have hx : ¬ x < 0 := fun z => h1 (Int32.lt_trans z (by decide))
  rcases ix_cases x (2 ^ np) (by omega) with ⟨-, z⟩ | ⟨F, hF, rfl, -⟩
  · rcases z with z | z
    · exact absurd z hx
    · refine absurd (Int32.lt_of_lt_of_le ?_ z) h2
      exact (nI_ltI (by omega) (by omega)).mpr (by omega)
  · refine ⟨F, ?_⟩
    have e : (nI F).toBitVec.toNat = F := by
      show F % 2 ^ 32 = F
      omega
    rw [F_bits_n (by omega) 20 (by omega), cb_top (n := 8) (by omega) 12] at h3
    have hb := cb_le F 8
    have q3 : ¬ 3 < cb F 8 := fun z => h3 ((nI_ltI (a := 3) (by omega) (by omega)).mpr z)
    have q1 : ¬ F < 1 := fun z => h1 ((nI_ltI (b := 1) (by omega) (by omega)).mpr z)
    have := (cb_pos F (by omega)).mp (by omega)
    unfold swF
    rw [e, if_pos ⟨hF, by omega, by omega⟩]
theorem d_sway {x w : Int32} (hWf : Wf ω) (hd : 6 ≤ d) (hA : AO a) (hR : RM a σ) : Sp ω l yX9_sway cX9_sway 3 (some .int) d [.ref (ω.2.2.1 35), .int x, .int w] σ (PM (o_sway a x w) a σ) := by
  refine Sp.of (by decide) (Nat.le_of_ble_eq_true rfl) hWf (fun κ K => ?_)
  have hnp := hA.1.1
  have hp8 := p2_le8 hnp
  cases hs : swF (tnp (att a)) x with
  | none =>
    have ho : o_sway a x w = -2 := by simp only [o_sway, hs]
    rw [ho] at K
    have K2 := R_X9_sway_0 (σ := σ) (x1 := x) (x2 := w) K (by omega)
    rw [hR.1.1, nI_all hnp] at K2
    have no : ¬ x < 1 → ¬ nI (2 ^ tnp (att a) - 1) < x → ¬ 3 < F_bits x 20 → False := fun h1 h2 h3 => by
      obtain ⟨F, h⟩ := swF_M hnp h1 h2 h3
      rw [hs] at h
      cases h
    exact K2 (fun _ => PM.at rfl hR EM.rf) (fun _ _ => PM.at rfl hR EM.rf) (fun _ _ _ => PM.at rfl hR EM.rf) (fun h1 h2 h3 => (no h1 h2 h3).elim) (fun h1 h2 h3 => (no h1 h2 h3).elim) (fun h1 h2 h3 => (no h1 h2 h3).elim)
  | some F =>
    obtain ⟨rfl, hF, c1, c3⟩ := swF_some hs
    have K2 := R_X9_sway_0 (σ := σ) (x1 := nI F) (x2 := w) K (by omega)
    rw [hR.1.1, nI_all hnp, F_bits_n (by omega) 20 (by omega), cb_top (n := 8) (by omega) 12] at K2
    have F1 : 1 ≤ F := by
      have := (cb_pos F (by omega)).mpr c1
      omega
    have n1 : ¬ nI F < 1 := fun z => absurd ((nI_ltI (b := 1) (by omega) (by omega)).mp z) (by omega)
    have n2 : ¬ nI (2 ^ tnp (att a) - 1) < nI F := fun z => absurd ((nI_ltI (by omega) (by omega)).mp z) (by omega)
    have n3 : ¬ 3 < nI (cb F 8) := fun z => absurd ((nI_ltI (a := 3) (by omega) (by omega)).mp z) (by omega)
    have h2 : 2 ≤ tnp (att a) := hA.1.two (fun z => by
      rw [z] at hF
      omega)
    have n0 : ¬ (if nI (tnp (att a)) ≤ 0 then (0 : Int32) else 1) = 0 := fun z => absurd (tw0 (by omega) z) (by omega)
    refine K2 (fun z_ => absurd z_ n1) (fun _ z_ => absurd z_ n2) (fun _ _ z_ => absurd z_ n3) (fun _ _ _ _ z_ => absurd z_ n0) (fun _ _ _ hw _ => ?_) (fun _ _ _ hw => ?_)
    · obtain ⟨j, hj, rfl, e⟩ := rgm1 (n := 1) (by decide) hw
      have ho : o_sway a (nI F) (nI j) = Classical.epsilon (Lst (-9) (FinF (att a) F (nI j) (tit (att a) - 1) 0 (op (att a)) 0)) := by
        simp only [o_sway, hs, ix_n hj (by omega : 2 < 2 ^ 31)]
      rw [ho] at K
      refine C_X9_sway_43 K (by omega) (m_findSway hWf (by omega) hR.1 hA.1 h2 hF c3) (fun v σ' hp => ?_)
      obtain ⟨r, rfl, hL, hE⟩ := hp
      refine R_X9_sway_46 K ?_
      have er : r = Classical.epsilon (Lst (-9) (FinF (att a) F (nI j) (tit (att a) - 1) 0 (op (att a)) 0)) := hL.uni (Classical.epsilon_spec ⟨r, hL⟩)
      rw [er]
      exact PM.at rfl (hR.keep hE (by decide) (by decide)) (EM.of hE (by decide) (by decide))
    · have hi : ix w 2 = none := rgm0 (n := 1) (by decide) hw
      have ho : o_sway a (nI F) w = -2 := by simp only [o_sway, hs, hi]
      rw [ho]
      exact PM.at rfl hR EM.rf
end SWAY8
