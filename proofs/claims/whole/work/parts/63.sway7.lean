/-! ===== sway: the model tries all ways ===== -/
section SWAY7
variable {ω : WT} {l : Launch} {d : Nat} {a : Ab} {σ : St}
theorem pA_rd (σ : St) (k i : Nat) (v : Int32) : (pA σ k i v).2.1 k i = v := by
  show (if k = k then upd (σ.2.1 k) i v else σ.2.1 k) i = v
  rw [if_pos rfl, pk_us]
theorem gT_sub {t : Tn} {mt of to : Nat} : gT t mt of to &&& of = gT t mt of to := by
  apply Nat.eq_of_testBit_eq
  intro i
  unfold gT
  rw [Nat.testBit_and, bs_bit]
  cases of.testBit i <;> simp
theorem gT_all {t : Tn} {mt C g : Nat} (hnp : tnp t ≤ 8) (hC : C < 2 ^ tnp t) (h3 : cb C 8 ≤ 3) (hg : g &&& C = g) : ∃ k, k < 2 ^ cb C 8 ∧ gT t mt C (spN k C 8).1 = g := by
  have hp8 := p2_le8 hnp
  have hT : bs (fun x => C.testBit x && (g.testBit x ^^ tws t x mt)) (tnp t) &&& C = bs (fun x => C.testBit x && (g.testBit x ^^ tws t x mt)) (tnp t) := by
    apply Nat.eq_of_testBit_eq
    intro i
    rw [Nat.testBit_and, bs_bit]
    cases C.testBit i <;> simp
  have hlt := bs_lt (fun x => C.testBit x && (g.testBit x ^^ tws t x mt)) (tnp t)
  have h := spN_ok C (by omega)
  have hn : decide (3 < cb C 8) = false := by simp; omega
  rw [hn, Bool.false_or, List.all_eq_true] at h
  have h2 := h _ (List.mem_range.mpr (Nat.lt_of_lt_of_le hlt hp8))
  rw [hT] at h2
  have h3 : ((List.range (2 ^ cb C 8)).map (fun k => (spN k C 8).1)).contains (bs (fun x => C.testBit x && (g.testBit x ^^ tws t x mt)) (tnp t)) = true := by simpa using h2
  have h4 := List.contains_iff_mem.mp h3
  rw [List.mem_map] at h4
  obtain ⟨k, hk, e⟩ := h4
  refine ⟨k, List.mem_range.mp hk, ?_⟩
  rw [e]
  have hgl : g < 2 ^ tnp t := by
    rw [← hg]
    exact Nat.lt_of_le_of_lt Nat.and_le_right hC
  unfold gT
  rw [← bs_self hgl]
  refine bs_cong (fun i hi => ?_)
  rw [bs_bit, bs_self hgl]
  have : g.testBit i = true → C.testBit i = true := fun z => by
    rw [← hg, Nat.testBit_and] at z
    simp at z
    exact z.2
  cases h1 : C.testBit i <;> cases h2 : g.testBit i <;> cases tws t i mt <;> simp_all
def Lo (S : Nat → Prop) (f f' : Nat) : Prop := f' ≤ f ∧ (f' = f ∨ S f') ∧ ∀ c, S c → f' ≤ c
theorem Lo.seq {S1 S2 S : Nat → Prop} {f f1 f2 : Nat} (h1 : Lo S1 f f1) (h2 : Lo S2 f1 f2) (hS : ∀ c, S c ↔ S1 c ∨ S2 c) : Lo S f f2 := by
  obtain ⟨a1, a2, a3⟩ := h1
  obtain ⟨b1, b2, b3⟩ := h2
  refine ⟨by omega, ?_, fun c hc => ?_⟩
  · rcases b2 with rfl | b2
    · rcases a2 with rfl | a2
      · exact Or.inl rfl
      · exact Or.inr ((hS _).mpr (Or.inl a2))
    · exact Or.inr ((hS _).mpr (Or.inr b2))
  · rcases (hS c).mp hc with z | z
    · have := a3 c z
      omega
    · exact b3 c z
theorem Lo.none {S : Nat → Prop} {f : Nat} (h : ∀ c, S c → f ≤ c) : Lo S f f := ⟨Nat.le_refl _, Or.inl rfl, h⟩
def LvM (σ : St) (q : Nat) (m : Nat × Nat) (c k : Nat) : Prop := σ.2.1 51 q = nI m.2 ∧ (m.1 = 0 → σ.2.1 50 q = 1) ∧ (m.1 ≠ 0 → σ.2.1 50 q = 0 ∧ σ.2.1 49 q = nI m.1) ∧ σ.2.1 52 q = nI c ∧ σ.2.1 53 q + 1 = nI k
def LowEq (q : Nat) (σ σ' : St) : Prop := ∀ k, k ∈ [49, 50, 51, 52, 53] → ∀ i, i < q → σ'.2.1 k i = σ.2.1 k i
theorem LowEq.tr {q : Nat} {σ σ1 σ2 : St} (h : LowEq q σ σ1) (h2 : LowEq q σ1 σ2) : LowEq q σ σ2 := fun k hk i hi => (h2 k hk i hi).trans (h k hk i hi)
theorem LowEq.of {q : Nat} {ks : List Nat} {σ σ1 : St} (h : Eqx ks [] σ σ1) : LowEq q σ σ1 := fun k _ i _ => by rw [h.2.1 k (by simp)]
theorem LowEq.pA {q : Nat} {σ σ1 : St} (h : LowEq q σ σ1) {k i : Nat} (hi : q ≤ i) (v : Int32) : LowEq q σ (pA σ1 k i v) := by
  intro k' hk' i' hi'
  show (if k' = k then upd (σ1.2.1 k) i v else σ1.2.1 k') i' = _
  by_cases z : k' = k
  · subst z
    rw [if_pos rfl, pk_un (by omega)]
    exact h _ hk' i' hi'
  · rw [if_neg z]
    exact h _ hk' i' hi'
theorem LowEq.mono {q q' : Nat} {σ σ1 : St} (h : LowEq q σ σ1) (hq : q' ≤ q) : LowEq q' σ σ1 := fun k hk i hi => h k hk i (by omega)
theorem LowEq.rf {q : Nat} {σ : St} : LowEq q σ σ := fun _ _ _ _ => rfl
theorem LvM.keep {σ σ1 : St} {q c k : Nat} {m : Nat × Nat} (h : LvM σ q m c k) (e : LowEq (q + 1) σ σ1) : LvM σ1 q m c k := by
  unfold LvM
  rw [e 51 (by simp) q (by omega), e 50 (by simp) q (by omega), e 49 (by simp) q (by omega), e 52 (by simp) q (by omega), e 53 (by simp) q (by omega)]
  exact h
abbrev aSw : List Nat := [49, 50, 51, 52, 53]
/-- one level: all ways from the k-th on -/
theorem dfs_in {κ : KT} {t : Tn} {F q c : Nat} {want : Int32} {m : Nat × Nat} {post : Option Value → St → Prop} (S : Nat → Nat → Prop) (hS : ∀ g tot, S g tot → c + cb g 8 ≤ tot) (hWf : Wf ω) (hd : 4 ≤ d) (hT : TM t σ) (hO : TO t) (h2 : 2 ≤ tnp t) (hme : σ.1 2261 = nI (tme t)) (hla : σ.1 2262 = nI (tla t)) (hF : F < 256) (hF3 : cb F 8 ≤ 3) (hq : q < tit t) (hm1 : m.1 < 2 ^ tnp t) (hm2 : m.2 < tnp t) (hc : c ≤ 900)
    (K : Cm ω κ l yX9_findSway cX9_findSway 8 d (some .int) post)
    (H : ∀ g f σ1, c + cb g 8 < f → f ≤ 1000000 → MM (stF t F q g m).2.2.2 σ1 → σ1.1 2265 = (stF t F q g m).2.1 → Eqx kRun aSw σ σ1 → (∀ f1 σ2, f1 ≤ 1000000 → Lo (S g) f f1 → LowEq (q + 1) σ1 σ2 → Eqx kRun aSw σ σ2 → V ω κ 16 [(0, .ref (ω.2.2.1 35)), (1, .int (nI F)), (2, .int want), (3, .int (nI f1)), (4, .int (nI q))] [] σ2) →
      V ω κ 169 [(0, .ref (ω.2.2.1 35)), (1, .int (nI F)), (2, .int want), (3, .int (nI f)), (4, .int (nI q)), (7, .int (nI (c + cb g 8)))] [] σ1) :
    ∀ j k f σq, k + j = 2 ^ cb (F &&& m.1) 8 → LvM σq q m c k → f ≤ 1000000 → Eqx kRun aSw σ σq →
      (∀ f' σ', f' ≤ 1000000 → Lo (fun tot => ∃ k', k ≤ k' ∧ k' < 2 ^ cb (F &&& m.1) 8 ∧ S (gT t (tag t q) (F &&& m.1) (spN k' (F &&& m.1) 8).1) tot) f f' → LowEq q σq σ' → Eqx kRun aSw σ σ' → V ω κ 16 [(0, .ref (ω.2.2.1 35)), (1, .int (nI F)), (2, .int want), (3, .int (nI f')), (4, .int (nI q + -1))] [] σ') →
      V ω κ 16 [(0, .ref (ω.2.2.1 35)), (1, .int (nI F)), (2, .int want), (3, .int (nI f)), (4, .int (nI q))] [] σq := by
  have hit := hO.2.2.2.2.1
  have hnm := hO.2.1
  have hp8 := p2_le8 hO.1
  have hC : F &&& m.1 < 256 := Nat.lt_of_le_of_lt Nat.and_le_left hF
  have hC3 : cb (F &&& m.1) 8 ≤ 3 := Nat.le_trans (cb_sub (by rw [Nat.and_assoc, Nat.and_comm m.1 F, ← Nat.and_assoc, Nat.and_self]) 8) hF3
  have hC8 : 2 ^ cb (F &&& m.1) 8 ≤ 2 ^ 3 := Nat.pow_le_pow_right (by omega) hC3
  have hag := hO.2.2.2.2.2.2.1 q hq
  intro j
  induction j with
  | zero =>
    intro k f σq h hL hf hE fin
    obtain ⟨l1, l2, l3, l4, l5⟩ := hL
    have hof : (if σq.2.1 50 q = 0 then nI F &&& σq.2.1 49 q else 0) = nI (F &&& m.1) := by
      by_cases z : m.1 = 0
      · rw [l2 z, if_neg (by decide), z, Nat.and_zero]; rfl
      · rw [(l3 z).1, (l3 z).2, if_pos rfl, fa_and]
    have h01 : σq.2.1 50 q = 0 ∨ σq.2.1 50 q = 1 := by
      by_cases z : m.1 = 0
      · exact Or.inr (l2 z)
      · exact Or.inl (l3 z).1
    have hcb20 : cb (F &&& m.1) 20 = cb (F &&& m.1) 8 := cb_top (n := 8) hC 12
    have K2 := R_X9_findSway_16 (σ := σq) (x1 := nI F) (x2 := want) (x3 := nI f) (x4 := nI q) K (by omega)
    rw [nI_clamp (by omega), pA_rd, l5] at K2
    rw [hof, F_bits_n (by omega) 20 (by omega), hcb20, sh1 _ (by omega)] at K2
    have hn0 : ¬ nI q < 0 := nI_pos (by omega)
    have hge : ¬ nI k < nI (2 ^ cb (F &&& m.1) 8) := fun z => absurd ((nI_ltI (by omega) (by omega)).mp z) (by omega)
    refine K2 (fun z_ => absurd z_ hn0) (fun _ => vp_in_nI (by omega) (by omega)) (fun _ => vp_in_nI (by omega) (by omega)) (fun _ => h01) (fun _ => vp_in_nI (by omega) (by omega)) (fun _ => vp_in_nI (by omega) (by omega)) (fun _ => vp_in_nI (by omega) (by omega)) (fun _ => vp_in_nI (by omega) (by omega)) (fun _ z_ => absurd z_ hge) (fun _ z_ => absurd z_ hge) (fun _ _ => ?_)
    refine fin f _ hf (Lo.none (fun c' z => ?_)) ((LowEq.of (ks := kRun) (((Eqx.rf.pS (by simp) _).pS (by simp) _).pS (by simp) _)).pA (Nat.le_refl _) _) ((((hE.pS (by simp) _).pS (by simp) _).pS (by simp) _).pA (by simp) _ _)
    obtain ⟨k', z1, z2, -⟩ := z
    omega
  | succ j ih =>
    intro k f σq h hL hf hE fin
    have hL' := hL
    obtain ⟨l1, l2, l3, l4, l5⟩ := hL
    have hof : (if σq.2.1 50 q = 0 then nI F &&& σq.2.1 49 q else 0) = nI (F &&& m.1) := by
      by_cases z : m.1 = 0
      · rw [l2 z, if_neg (by decide), z, Nat.and_zero]; rfl
      · rw [(l3 z).1, (l3 z).2, if_pos rfl, fa_and]
    have h01 : σq.2.1 50 q = 0 ∨ σq.2.1 50 q = 1 := by
      by_cases z : m.1 = 0
      · exact Or.inr (l2 z)
      · exact Or.inl (l3 z).1
    have hcb20 : cb (F &&& m.1) 20 = cb (F &&& m.1) 8 := cb_top (n := 8) hC 12
    have K2 := R_X9_findSway_16 (σ := σq) (x1 := nI F) (x2 := want) (x3 := nI f) (x4 := nI q) K (by omega)
    rw [nI_clamp (by omega), pA_rd, l5] at K2
    rw [hof, F_bits_n (by omega) 20 (by omega), hcb20, sh1 _ (by omega)] at K2
    have hn0 : ¬ nI q < 0 := nI_pos (by omega)
    have hlt : nI k < nI (2 ^ cb (F &&& m.1) 8) := (nI_ltI (by omega) (by omega)).mpr (by omega)
    refine K2 (fun z_ => absurd z_ hn0) (fun _ => vp_in_nI (by omega) (by omega)) (fun _ => vp_in_nI (by omega) (by omega)) (fun _ => h01) (fun _ => vp_in_nI (by omega) (by omega)) (fun _ => vp_in_nI (by omega) (by omega)) (fun _ => vp_in_nI (by omega) (by omega)) (fun _ => vp_in_nI (by omega) (by omega)) (fun _ _ => vp_in_nI (by omega) (by omega)) (fun _ _ => ?_) (fun _ z_ => absurd hlt z_)
    generalize hσ1 : pA (pS (pS (pS σq 2258 (σq.2.1 49 q)) 2259 (σq.2.1 50 q)) 2260 (σq.2.1 51 q)) 53 q (nI k) = σ1
    have hE1 : Eqx kRun aSw σ σ1 := by rw [← hσ1]; exact (((hE.pS (by simp) _).pS (by simp) _).pS (by simp) _).pA (by simp) _ _
    have hlow : LowEq q σq σ1 := by rw [← hσ1]; exact (LowEq.of (ks := kRun) (((Eqx.rf.pS (by simp) _).pS (by simp) _).pS (by simp) _)).pA (Nat.le_refl _) _
    have hL1 : LvM σ1 q m c (k + 1) := by
      subst hσ1
      refine ⟨l1, l2, l3, l4, ?_⟩
      rw [pA_rd, nI_1]
    have hM1 : MM m σ1 := by
      subst hσ1
      exact ⟨l1, fun z => l2 z, fun z => l3 z⟩
    have hT1 : TM t σ1 := hT.keep hE1 (by decide) (by decide)
    have nxt : ∀ f1 σ2, f1 ≤ 1000000 → Lo (S (gT t (tag t q) (F &&& m.1) (spN k (F &&& m.1) 8).1)) f f1 → LowEq (q + 1) σ1 σ2 → Eqx kRun aSw σ σ2 → V ω κ 16 [(0, .ref (ω.2.2.1 35)), (1, .int (nI F)), (2, .int want), (3, .int (nI f1)), (4, .int (nI q))] [] σ2 := by
      intro f1 σ2 hf1 hLo hlow2 hE2
      refine ih (k + 1) f1 σ2 (by omega) (hL1.keep hlow2) hf1 hE2 (fun f' σ' hf' hLo' hlow' hE' => fin f' σ' hf' (hLo.seq hLo' (fun c' => ?_)) ((hlow.tr (hlow2.mono (by omega))).tr hlow') hE')
      constructor
      · rintro ⟨k', z1, z2, z3⟩
        by_cases z : k' = k
        · subst z; exact Or.inl z3
        · exact Or.inr ⟨k', by omega, z2, z3⟩
      · rintro (z | ⟨k', z1, z2, z3⟩)
        · exact ⟨k, by omega, by omega, z⟩
        · exact ⟨k', by omega, z2, z3⟩
    refine C_X9_findSway_116 K (by omega) (m_spread hWf (by omega) hC) (go_I ?_)
    have hsp : (spN k (F &&& m.1) 8).1 < 256 := (spN_b (of := F &&& m.1) (show k < 8 by omega) 8).1
    refine R_X9_findSway_119 K (vp_in_nI (by omega) (by omega)) (vp_in_nI (by omega) (by omega)) ?_
    rw [nI_clamp (by omega), hT1.2.2.2.2.2.2.2 q hq, hL1.2.2.2.1]
    refine C_X9_findSway_140 K (by omega) (m_lies hWf hT1 hO hag hC hsp) (go_I ?_)
    generalize hg : gT t (tag t q) (F &&& m.1) (spN k (F &&& m.1) 8).1 = g at *
    have hcg := cb_le g 8
    refine R_X9_findSway_143 K (fun _ => vp_in_nI (by omega) (by omega)) (fun z => ?_) (fun z => ?_)
    · rw [nI_clamp (by omega), hT1.2.2.2.2.2.2.2 q hq]
      rw [nI_add] at z ⊢
      have hlt2 : c + cb g 8 < f := (nI_ltI (by omega) (by omega)).mp z
      refine C_X9_findSway_166 K (by omega) (m_goOn hWf (by omega) hT1 hO h2 hM1 hm1 hm2 ((hE1.1 2261 (by decide)).trans hme) hO.2.2.1 ((hE1.1 2262 (by decide)).trans hla) hO.2.2.2.1 hag hF hsp) (fun v σ2 hp => ?_)
      have est : stepS (tnp t) (tme t) (tla t) (tkd t) (tellW t (tag t q) F (spN k (F &&& m.1) 8).1) F.testBit m = stF t F q g m := by
        refine stepS_set (fun x hx hs => ⟨?_, rfl⟩)
        subst hg
        unfold gT tellW
        rw [bs_bit, Nat.testBit_and, hs]
        cases F.testBit x <;> cases (spN k (F &&& m.1) 8).1.testBit x <;> cases tws t x (tag t q) <;> simp [hx]
      rw [est] at hp
      obtain ⟨rfl, q1, -, -, q4, -, q6⟩ := hp
      exact H g f σ2 hlt2 hf q1 q4 (hE1.tr (q6.mono (by simp) (by simp))) (fun f1 σ3 hf1 hLo hlow3 hE3 => nxt f1 σ3 hf1 hLo ((LowEq.of q6).tr hlow3) hE3)
    · rw [nI_add] at z
      have hge2 : f ≤ c + cb g 8 := by
        refine Classical.byContradiction fun y => z ((nI_ltI (by omega) (by omega)).mpr (by omega))
      exact nxt f σ1 hf (Lo.none (fun c' z => Nat.le_trans hge2 (hS g c' z))) LowEq.rf hE1
end SWAY7
