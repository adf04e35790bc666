/-! ===== sway: the class puts a matter to the vote from all moments ===== -/
section SWAY4
variable {ω : WT} {l : Launch} {d : Nat} {a : Ab} {σ : St}
theorem Lst.no {Q : Nat → Prop} {x : Int32} {c0 : Nat} (h : Lst (-1) Q x) (hQ : ∀ c, Q c → c ≤ 1000) (hc0 : c0 ≤ 1000) (z : (if x = -1 then (1 : Int32) else (if x ≤ nI c0 then 0 else 1)) = 0) : Lst (-1) (fun c => Q c ∨ c = c0) x := by
  rcases h with ⟨rfl, -⟩ | ⟨c, rfl, h1, h2⟩
  · rw [if_pos rfl] at z
    exact absurd z (by decide)
  · have hc := hQ c h1
    have hne : ¬ nI c = -1 := fun z => absurd (show nI c < 0 by rw [z]; decide) (nI_pos (by omega))
    rw [if_neg hne] at z
    by_cases z2 : nI c ≤ nI c0
    · refine Or.inr ⟨c, rfl, Or.inl h1, fun c' hc' => ?_⟩
      rcases hc' with hc' | rfl
      · exact h2 c' hc'
      · exact (nI_leI (by omega) (by omega)).mp z2
    · rw [if_neg z2] at z
      exact absurd z (by decide)
theorem Lst.new {Q : Nat → Prop} {x : Int32} {c0 : Nat} (h : Lst (-1) Q x) (hQ : ∀ c, Q c → c ≤ 1000) (hc0 : c0 ≤ 1000) (z : ¬ (if x = -1 then (1 : Int32) else (if x ≤ nI c0 then 0 else 1)) = 0) : Lst (-1) (fun c => Q c ∨ c = c0) (nI c0) := by
  refine Or.inr ⟨c0, rfl, Or.inr rfl, fun c' hc' => ?_⟩
  rcases hc' with hc' | rfl
  · rcases h with ⟨-, h⟩ | ⟨c, rfl, h1, h2⟩
    · exact absurd hc' (h c')
    · have hc := hQ c h1
      have hne : ¬ nI c = -1 := fun z => absurd (show nI c < 0 by rw [z]; decide) (nI_pos (by omega))
      rw [if_neg hne] at z
      have := h2 c' hc'
      refine Classical.byContradiction fun z2 => z ?_
      rw [if_pos (nI_le (by omega) (by omega))]
  · exact Nat.le_refl _
def PD (t : Tn) (F q : Nat) (m : Nat × Nat) (c : Nat) (P : Nat × Nat → Nat → Prop) (D : Nat → Prop) : Nat × Nat → Nat → Prop := fun m' c' => P m' c' ∨ ∃ g, D g ∧ m' = (stF t F q g m).2.2.2 ∧ c' = c + cb g 8
def QD (t : Tn) (F q : Nat) (want : Int32) (m : Nat × Nat) (c : Nat) (Q : Nat → Prop) (D : Nat → Prop) : Nat → Prop := fun c' => Q c' ∨ ∃ g, D g ∧ (stF t F q g m).2.1 = want ∧ c' = c + cb g 8
theorem PD_ok {t : Tn} {F q : Nat} {m : Nat × Nat} {c : Nat} {P : Nat × Nat → Nat → Prop} {D : Nat → Prop} (hO : TO t) (h2 : 2 ≤ tnp t) (hP : POk (tnp t) (tla t) P) (hG : GM (tnp t) (tla t) m) (hc : c ≤ 900) : POk (tnp t) (tla t) (PD t F q m c P D) := by
  intro m' c' h
  rcases h with h | ⟨g, -, rfl, rfl⟩
  · exact hP m' c' h
  · have := cb_le g 8
    exact ⟨GM.step (by omega) hO.1 hO.2.2.2.1 hG, by omega⟩
theorem PD_step {t : Tn} {F q : Nat} {m : Nat × Nat} {c g : Nat} {P : Nat × Nat → Nat → Prop} {D D' : Nat → Prop} {la : Nat} {A B : Nat → Int32} (h : Tab la (fun m' c' => PD t F q m c P D m' c' ∨ (m' = (stF t F q g m).2.2.2 ∧ c' = c + cb g 8)) A B) (hD : ∀ g', D' g' ↔ D g' ∨ g' = g) : Tab la (PD t F q m c P D') A B :=
  h.cong (fun m' c' z => by
    rcases z with (z | ⟨g', z1, z2⟩) | z
    · exact Or.inl z
    · exact Or.inr ⟨g', (hD g').mpr (Or.inl z1), z2⟩
    · exact Or.inr ⟨g, (hD g).mpr (Or.inr rfl), z⟩) (fun m' c' z => ⟨c', Nat.le_refl _, by
    rcases z with z | ⟨g', z1, z2⟩
    · exact Or.inl (Or.inl z)
    · rcases (hD g').mp z1 with z1 | rfl
      · exact Or.inl (Or.inr ⟨g', z1, z2⟩)
      · exact Or.inr z2⟩)
theorem QD_no {t : Tn} {F q : Nat} {want : Int32} {m : Nat × Nat} {c g : Nat} {Q : Nat → Prop} {D D' : Nat → Prop} {x : Int32} (h : Lst (-1) (QD t F q want m c Q D) x) (hw : ¬ (stF t F q g m).2.1 = want) (hD : ∀ g', D' g' ↔ D g' ∨ g' = g) : Lst (-1) (QD t F q want m c Q D') x :=
  h.cong (fun c' z => by
    rcases z with z | ⟨g', z1, z2⟩
    · exact Or.inl z
    · exact Or.inr ⟨g', (hD g').mpr (Or.inl z1), z2⟩) (fun c' z => ⟨c', Nat.le_refl _, by
    rcases z with z | ⟨g', z1, z2⟩
    · exact Or.inl z
    · rcases (hD g').mp z1 with z1 | rfl
      · exact Or.inr ⟨g', z1, z2⟩
      · exact absurd z2.1 hw⟩)
theorem QD_yes {t : Tn} {F q : Nat} {want : Int32} {m : Nat × Nat} {c g : Nat} {Q : Nat → Prop} {D D' : Nat → Prop} {x : Int32} (h : Lst (-1) (fun c' => QD t F q want m c Q D c' ∨ c' = c + cb g 8) x) (hw : (stF t F q g m).2.1 = want) (hD : ∀ g', D' g' ↔ D g' ∨ g' = g) : Lst (-1) (QD t F q want m c Q D') x :=
  h.cong (fun c' z => by
    rcases z with (z | ⟨g', z1, z2⟩) | z
    · exact Or.inl z
    · exact Or.inr ⟨g', (hD g').mpr (Or.inl z1), z2⟩
    · exact Or.inr ⟨g, (hD g).mpr (Or.inr rfl), hw, z⟩) (fun c' z => ⟨c', Nat.le_refl _, by
    rcases z with z | ⟨g', z1, z2⟩
    · exact Or.inl (Or.inl z)
    · rcases (hD g').mp z1 with z1 | rfl
      · exact Or.inl (Or.inr ⟨g', z1, z2⟩)
      · exact Or.inr z2.2⟩)
theorem QD_ok {t : Tn} {F q : Nat} {want : Int32} {m : Nat × Nat} {c : Nat} {Q : Nat → Prop} {D : Nat → Prop} (hQ : ∀ c, Q c → c ≤ 1000) (hc : c ≤ 900) : ∀ c', QD t F q want m c Q D c' → c' ≤ 1000 := by
  intro c' h
  rcases h with h | ⟨g, -, -, rfl⟩
  · exact hQ c' h
  · have := cb_le g 8
    omega
theorem vfa_in {κ : KT} {t : Tn} {F q s c : Nat} {want : Int32} {m : Nat × Nat} {P : Nat × Nat → Nat → Prop} {Q : Nat → Prop} {post : Option Value → St → Prop} (hWf : Wf ω) (hd : 4 ≤ d) (hT : TC t σ) (hO : TO t) (h2 : 2 ≤ tnp t) (hme : σ.1 897 = nI (tme t)) (hla : σ.1 898 = nI (tla t)) (hF : F < 256) (hs : s < 256) (hG : GM (tnp t) (tla t) m) (hc : c ≤ 900) (h24 : σ.2.1 24 s = mI m) (h25 : σ.2.1 25 s = nI c)
    (hP : POk (tnp t) (tla t) P) (hQ : ∀ c, Q c → c ≤ 1000) (K : Cm ω κ l yX1_voteFromAll cX1_voteFromAll 11 d (some .int) post) :
    ∀ j k g x4 σq D, k + j = 8 → g &&& (F &&& m.1) = g → Eqx [899, 900, 901] [26, 27] σ σq → Tab (tla t) (PD t F q m c P D) (σq.2.1 26) (σq.2.1 27) → Lst (-1) (QD t F q want m c Q D) x4 →
      (∀ x4' σ' D', (∀ g', D' g' ↔ D g' ∨ g' ∈ ptL (F &&& m.1) j g) → Eqx [899, 900, 901] [26, 27] σ σ' → Tab (tla t) (PD t F q m c P D') (σ'.2.1 26) (σ'.2.1 27) → Lst (-1) (QD t F q want m c Q D') x4' → V ω κ 14 [(0, .ref (ω.2.2.1 23)), (1, .int (nI (bs (fun x => tws t x (tag t q)) (tnp t)))), (2, .int (nI F)), (3, .int want), (4, .int x4'), (5, .int (nI (s + 1)))] [] σ') →
      V ω κ 54 [(0, .ref (ω.2.2.1 23)), (1, .int (nI (bs (fun x => tws t x (tag t q)) (tnp t)))), (2, .int (nI F)), (3, .int want), (4, .int x4), (5, .int (nI s)), (6, .int (nI (F &&& m.1))), (7, .int (nI g)), (8, .int (nI k))] [] σq
  | 0, k, g, x4, σq, D, h, hg, hE, hTb, hL, fin => by
    obtain rfl : k = 8 := by omega
    have hle : (8 : Int32) ≤ nI 8 := by decide
    refine R_X1_voteFromAll_54 K (by omega) (fun _ => ?_) (fun z_ => absurd hle z_) (fun z_ => absurd hle z_) (fun z_ => absurd hle z_)
    rw [nI_1]
    exact fin x4 σq D (fun g' => ⟨Or.inl, fun z => z.elim id (fun z => by simp [ptL] at z)⟩) hE hTb hL
  | j + 1, k, g, x4, σq, D, h, hg, hE, hTb, hL, fin => by
    have hge : ¬ (8 : Int32) ≤ nI k := fun z => absurd ((nI_leI (a := 8) (by decide) (by omega)).mp z) (by omega)
    have hC : F &&& m.1 < 256 := Nat.lt_of_le_of_lt Nat.and_le_left hF
    have hgl : g < 256 := by rw [← hg]; exact Nat.lt_of_le_of_lt Nat.and_le_right hC
    have hp8 := p2_le8 hO.1
    have hcg := cb_le g 8
    refine R_X1_voteFromAll_54 K (by omega) (fun z_ => absurd z_ hge) (fun _ => vp_in_nI hs (by omega)) (fun _ => vp_in_nI hs (by omega)) (fun _ => ?_)
    have hTq : TC t σq := hT.keep hE (by decide) (by decide)
    have e24 : σq.2.1 24 s = mI m := by rw [hE.2.1 24 (by decide)]; exact h24
    have e25 : σq.2.1 25 s = nI c := by rw [hE.2.1 25 (by decide)]; exact h25
    rw [nI_clamp (by omega), e24, e25, F_bc_n g hgl, nI_add, fb_xorI]
    refine C_X1_voteFromAll_93 K (by omega) (m_step (t := t) (set := m.1) (last := m.2) (me := tme t) (la := tla t) hWf (by omega) hTq hO ((hE.1 897 (by decide)).trans hme) hO.2.2.1 ((hE.1 898 (by decide)).trans hla) hO.2.2.2.1 hG.1 hG.2.1) (go_I ?_)
    have est : stepS (tnp t) (tme t) (tla t) (tkd t) (bs (fun x => tws t x (tag t q)) (tnp t) ^^^ g).testBit (F &&& m.1).testBit (m.1, m.2) = stF t F q g m := by
      refine stepS_set (m := m) (fun x hx hs => ⟨?_, ?_⟩)
      · rw [Nat.testBit_xor, bs_bit]; simp [hx]
      · rw [Nat.testBit_and, hs]; simp
    rw [est]
    refine R_X1_voteFromAll_96 K ?_
    have hE1 : Eqx [899, 900, 901] [] σq (pS (pS (pS σq 899 (nI (stF t F q g m).1)) 900 (stF t F q g m).2.1) 901 (nI (stF t F q g m).2.2.1)) := ((Eqx.rf.pS (by simp) _).pS (by simp) _).pS (by simp) _
    have hG1 : GM (tnp t) (tla t) (stF t F q g m).2.2.2 := GM.step (by omega) hO.1 hO.2.2.2.1 hG
    refine C_X1_voteFromAll_103 K (by omega) (m_reach (np := tnp t) (la := tla t) (P := PD t F q m c P D) (m0 := (stF t F q g m).2.2.2) hWf (by omega) hO.1 ((hE.1 898 (by decide)).trans hla) hO.2.2.2.1 hTb (PD_ok hO h2 hP hG hc) hG1 (by omega)) (fun v σ2 hp => ?_)
    obtain ⟨rfl, hT2, hE2⟩ := hp
    have hE3 : Eqx [899, 900, 901] [26, 27] σ σ2 := (hE.tr (hE1.mono (by simp) (by simp))).tr (hE2.mono (by simp) (by simp))
    have e900 : σ2.1 900 = (stF t F q g m).2.1 := (hE2.1 900 (by decide)).trans rfl
    have eg : ¬ g = 0 → (nI g - 1) &&& nI (F &&& m.1) = nI ((g - 1) &&& (F &&& m.1)) := fun z => by
      rw [show (1 : Int32) = nI 1 from rfl, pk_sub (by omega), fa_and]
    have hg2 : (g - 1 &&& (F &&& m.1)) &&& (F &&& m.1) = g - 1 &&& (F &&& m.1) := by rw [Nat.and_assoc, Nat.and_self]
    have hDD : ∀ g', (fun g' => D g' ∨ g' = g) g' ↔ D g' ∨ g' = g := fun _ => Iff.rfl
    have z0 : ∀ {g : Nat}, g < 256 → (nI g = 0 ↔ g = 0) := fun hg => nI_eq (b := 0) (by omega) (by omega)
    have more : ∀ x4', ¬ nI g = 0 → Lst (-1) (QD t F q want m c Q (fun g' => D g' ∨ g' = g)) x4' → V ω κ 54 [(0, .ref (ω.2.2.1 23)), (1, .int (nI (bs (fun x => tws t x (tag t q)) (tnp t)))), (2, .int (nI F)), (3, .int want), (4, .int x4'), (5, .int (nI s)), (6, .int (nI (F &&& m.1))), (7, .int ((nI g - 1) &&& nI (F &&& m.1))), (8, .int (nI k + 1))] [] σ2 := by
      intro x4' hz hL'
      have hz' : ¬ g = 0 := fun z => hz ((z0 hgl).mpr z)
      rw [eg hz', nI_1]
      refine vfa_in hWf hd hT hO h2 hme hla hF hs hG hc h24 h25 hP hQ K j (k + 1) _ x4' σ2 _ (by omega) hg2 hE3 (PD_step hT2 hDD) hL' (fun x5 σ5 D5 hD5 => fin x5 σ5 D5 (fun g' => ?_))
      rw [hD5, ptL, if_neg hz', List.mem_cons, or_assoc]
    have stop : ∀ x4', nI g = 0 → Lst (-1) (QD t F q want m c Q (fun g' => D g' ∨ g' = g)) x4' → V ω κ 14 [(0, .ref (ω.2.2.1 23)), (1, .int (nI (bs (fun x => tws t x (tag t q)) (tnp t)))), (2, .int (nI F)), (3, .int want), (4, .int x4'), (5, .int (nI s + 1))] [] σ2 := by
      intro x4' hz hL'
      rw [nI_1]
      refine fin x4' σ2 _ (fun g' => ?_) hE3 (PD_step hT2 hDD) hL'
      rw [ptL, if_pos ((z0 hgl).mp hz), List.mem_singleton]
    have hQ' := QD_ok (t := t) (F := F) (q := q) (want := want) (m := m) (D := D) hQ hc
    refine R_X1_voteFromAll_106 K (by omega) (fun w z => ?_) (fun w z => ?_) (fun w y z => ?_) (fun w y z => ?_) (fun w y z => ?_) (fun w y z => ?_)
    · rw [e900] at w; exact more _ z (QD_no hL w hDD)
    · rw [e900] at w; exact stop _ z (QD_no hL w hDD)
    · rw [e900] at w; exact more _ z (QD_yes (hL.no hQ' (by omega) y) w hDD)
    · rw [e900] at w; exact stop _ z (QD_yes (hL.no hQ' (by omega) y) w hDD)
    · rw [e900] at w; exact more _ z (QD_yes (hL.new hQ' (by omega) y) w hDD)
    · rw [e900] at w; exact stop _ z (QD_yes (hL.new hQ' (by omega) y) w hDD)
/-- from the slots below s -/
def Lm (R : Nat × Nat → Nat → Prop) (m : Nat × Nat) (c : Nat) : Prop := R m c ∧ ∀ c', R m c' → c ≤ c'
def PS (t : Tn) (F q : Nat) (R : Nat × Nat → Nat → Prop) (s : Nat) : Nat × Nat → Nat → Prop := fun m c => ∃ m' c' g, slN (tla t) m' < s ∧ Lm R m' c' ∧ g &&& (F &&& m'.1) = g ∧ m = (stF t F q g m').2.2.2 ∧ c = c' + cb g 8
def QS (t : Tn) (F q : Nat) (want : Int32) (R : Nat × Nat → Nat → Prop) (s : Nat) : Nat → Prop := fun c => ∃ m' c' g, slN (tla t) m' < s ∧ Lm R m' c' ∧ g &&& (F &&& m'.1) = g ∧ (stF t F q g m').2.1 = want ∧ c = c' + cb g 8
theorem ptL_mem {F s g : Nat} (hF : F < 256) (hc : cb F 8 ≤ 3) : g ∈ ptL (F &&& s) 8 (F &&& s) ↔ g &&& (F &&& s) = g := by
  have hC : F &&& s < 256 := Nat.lt_of_le_of_lt Nat.and_le_left hF
  have h3 : cb (F &&& s) 8 ≤ cb F 8 := cb_sub (by rw [Nat.and_assoc, Nat.and_comm s F, ← Nat.and_assoc, Nat.and_self]) 8
  have h := ptL_ok _ hC
  have hn : decide (3 < cb (F &&& s) 8) = false := by simp; omega
  rw [hn, Bool.false_or, List.all_eq_true] at h
  by_cases hg : g < 256
  · have := h g (List.mem_range.mpr hg)
    have e : (g &&& (F &&& s) == g) = (ptL (F &&& s) 8 (F &&& s)).contains g := by simpa using this
    constructor
    · intro z
      have : (ptL (F &&& s) 8 (F &&& s)).contains g = true := by simpa using z
      rw [← e] at this
      simpa using this
    · intro z
      have : (g &&& (F &&& s) == g) = true := by simpa using z
      rw [e] at this
      simpa using this
  · constructor
    · intro z
      exfalso
      have key : ∀ k g', g' ≤ F &&& s → ∀ x ∈ ptL (F &&& s) k g', x ≤ F &&& s := by
        intro k
        induction k with
        | zero => intro g' _ x hx; simp [ptL] at hx
        | succ k ih =>
          intro g' hg' x hx
          rw [ptL, List.mem_cons] at hx
          rcases hx with rfl | hx
          · exact hg'
          · by_cases z : g' = 0
            · rw [if_pos z] at hx; cases hx
            · rw [if_neg z] at hx
              exact ih _ Nat.and_le_right x hx
      have := key 8 _ (Nat.le_refl _) g z
      omega
    · intro z
      exfalso
      have : g &&& (F &&& s) ≤ F &&& s := Nat.and_le_right
      omega
end SWAY4
