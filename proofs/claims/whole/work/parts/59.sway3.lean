/-! ===== sway: what is asked for; the class's table of moments ===== -/
section SWAY3
variable {ω : WT} {l : Launch} {d : Nat} {a : Ab} {σ : St}
def stF (t : Tn) (F q g : Nat) (m : Nat × Nat) : Nat × Int32 × Nat × Nat × Nat := stepS (tnp t) (tme t) (tla t) (tkd t) (fun x => tws t x (tag t q) ^^ g.testBit x) F.testBit m
def FinF (t : Tn) (F : Nat) (want : Int32) : Nat → Nat → Nat × Nat → Nat → Nat → Prop
  | 0, q, m, c, tot => ∃ g, g &&& (F &&& m.1) = g ∧ (stF t F q g m).2.1 = want ∧ tot = c + cb g 8
  | r + 1, q, m, c, tot => ∃ g, g &&& (F &&& m.1) = g ∧ FinF t F want r (q + 1) (stF t F q g m).2.2.2 (c + cb g 8) tot
def Rch (t : Tn) (F : Nat) : Nat → Nat × Nat → Nat → Prop
  | 0, m, c => m = op t ∧ c = 0
  | q + 1, m, c => ∃ m' c' g, Rch t F q m' c' ∧ g &&& (F &&& m'.1) = g ∧ m = (stF t F q g m').2.2.2 ∧ c = c' + cb g 8
/-- the least of the numbers, or a word for none -/
def Lst (no : Int32) (Q : Nat → Prop) (r : Int32) : Prop := (r = no ∧ ∀ c, ¬ Q c) ∨ ∃ c, r = nI c ∧ Q c ∧ ∀ c', Q c' → c ≤ c'
theorem Lst.uni {no r r' : Int32} {Q : Nat → Prop} (h : Lst no Q r) (h' : Lst no Q r') : r = r' := by
  rcases h with ⟨rfl, h⟩ | ⟨c, rfl, h1, h2⟩
  · rcases h' with ⟨rfl, -⟩ | ⟨c, -, h1, -⟩
    · rfl
    · exact absurd h1 (h c)
  · rcases h' with ⟨-, h⟩ | ⟨c', rfl, h1', h2'⟩
    · exact absurd h1 (h c)
    · rw [Nat.le_antisymm (h2 _ h1') (h2' _ h1)]
theorem Lst.cong {no r : Int32} {Q Q' : Nat → Prop} (h : Lst no Q r) (h1 : ∀ c, Q c → Q' c) (h2 : ∀ c, Q' c → ∃ c', c' ≤ c ∧ Q c') : Lst no Q' r := by
  rcases h with ⟨rfl, h⟩ | ⟨c, rfl, q1, q2⟩
  · refine Or.inl ⟨rfl, fun c hc => ?_⟩
    obtain ⟨c', -, h3⟩ := h2 c hc
    exact h c' h3
  · refine Or.inr ⟨c, rfl, h1 c q1, fun c' hc' => ?_⟩
    obtain ⟨c2, h3, h4⟩ := h2 c' hc'
    exact Nat.le_trans (q2 c2 h4) h3
theorem Fin_Rch {t : Tn} {F : Nat} {want : Int32} {tot : Nat} : ∀ r q, (∃ m c, Rch t F q m c ∧ FinF t F want r q m c tot) ↔ ∃ m c, Rch t F (q + r) m c ∧ FinF t F want 0 (q + r) m c tot
  | 0, q => Iff.rfl
  | r + 1, q => by
    have ih := Fin_Rch (t := t) (F := F) (want := want) (tot := tot) r (q + 1)
    rw [show q + 1 + r = q + (r + 1) by omega] at ih
    rw [← ih]
    constructor
    · rintro ⟨m, c, h1, g, h2, h3⟩
      exact ⟨_, _, ⟨m, c, g, h1, h2, rfl, rfl⟩, h3⟩
    · rintro ⟨m, c, ⟨m', c', g, h1, h2, rfl, rfl⟩, h3⟩
      exact ⟨m', c', h1, g, h2, h3⟩
theorem cb_sub {g C : Nat} (h : g &&& C = g) : ∀ n, cb g n ≤ cb C n
  | 0 => Nat.le_refl _
  | n + 1 => by
    have ih := cb_sub h n
    rw [cb, cb]
    have e : g.testBit n = true → C.testBit n = true := fun z => by
      rw [← h, Nat.testBit_and] at z
      simp at z
      exact z.2
    cases hg : g.testBit n
    · simp; omega
    · simp [e hg]; omega
theorem and_sub {g F s : Nat} (h : g &&& (F &&& s) = g) : g &&& F = g := by
  apply Nat.eq_of_testBit_eq
  intro i
  have := congrArg (fun z => z.testBit i) h
  simp only [Nat.testBit_and] at this ⊢
  cases hg : g.testBit i <;> simp_all
theorem Rch_ok {t : Tn} {F : Nat} (hO : TO t) (h2 : 2 ≤ tnp t) (hF : cb F 8 ≤ 3) : ∀ q m c, Rch t F q m c → GM (tnp t) (tla t) m ∧ c ≤ 3 * q
  | 0, m, c, h => by
    obtain ⟨rfl, rfl⟩ := h
    exact ⟨GM.op h2 hO.1, Nat.le_refl _⟩
  | q + 1, m, c, h => by
    obtain ⟨m', c', g, h1, h3, rfl, rfl⟩ := h
    obtain ⟨g1, g2⟩ := Rch_ok hO h2 hF q m' c' h1
    have := cb_sub (and_sub h3) 8
    exact ⟨GM.step (by omega) hO.1 hO.2.2.2.1 g1, by omega⟩
/-- the class's table -/
def Tab (la : Nat) (P : Nat × Nat → Nat → Prop) (A B : Nat → Int32) : Prop := ∀ s, s < 256 → (B s = -1 ∧ ∀ m c, P m c → slN la m ≠ s) ∨ ∃ m c, slN la m = s ∧ P m c ∧ B s = nI c ∧ A s = mI m ∧ ∀ c', P m c' → c ≤ c'
def POk (np la : Nat) (P : Nat × Nat → Nat → Prop) : Prop := ∀ m c, P m c → GM np la m ∧ c ≤ 1000
theorem Tab.cong {la : Nat} {P P' : Nat × Nat → Nat → Prop} {A B : Nat → Int32} (h : Tab la P A B) (h1 : ∀ m c, P m c → P' m c) (h2 : ∀ m c, P' m c → ∃ c', c' ≤ c ∧ P m c') : Tab la P' A B := by
  intro s hs
  rcases h s hs with ⟨e, h⟩ | ⟨m, c, e, q1, e1, e2, q2⟩
  · refine Or.inl ⟨e, fun m c hm => ?_⟩
    obtain ⟨c', -, h3⟩ := h2 m c hm
    exact h m c' h3
  · refine Or.inr ⟨m, c, e, h1 m c q1, e1, e2, fun c' hc' => ?_⟩
    obtain ⟨c2, h3, h4⟩ := h2 m c' hc'
    exact Nat.le_trans (q2 c2 h4) h3
theorem Tab.add {np la : Nat} {P : Nat × Nat → Nat → Prop} {A B : Nat → Int32} {m0 : Nat × Nat} {c0 : Nat} (hnp : np ≤ 8) (h : Tab la P A B) (hP : POk np la P) (hG : GM np la m0) (hb : B (slN la m0) = -1 ∨ ∃ c, B (slN la m0) = nI c ∧ c0 < c ∧ c ≤ 1000) : Tab la (fun m c => P m c ∨ (m = m0 ∧ c = c0)) (upd A (slN la m0) (mI m0)) (upd B (slN la m0) (nI c0)) := by
  intro s hs
  by_cases es : s = slN la m0
  · subst es
    refine Or.inr ⟨m0, c0, rfl, Or.inr ⟨rfl, rfl⟩, pk_us, pk_us, fun c' hc' => ?_⟩
    rcases hc' with hc' | ⟨-, rfl⟩
    · rcases h _ hs with ⟨e, h⟩ | ⟨m, c, e, q1, e1, e2, q2⟩
      · exact absurd rfl (h m0 c' hc')
      · have em : m = m0 := slN_inj hnp (hP m c q1).1 hG e
        subst em
        have := q2 c' hc'
        rcases hb with hb | ⟨cc, hb, h1, h3⟩
        · rw [e1] at hb
          exact absurd (show nI c < 0 by rw [hb]; decide) (nI_pos (by have := (hP _ c q1).2; omega))
        · rw [e1] at hb
          have := (nI_eq (by have := (hP _ c q1).2; omega) (by omega)).mp hb
          omega
    · exact Nat.le_refl _
  · rw [pk_un es, pk_un es]
    rcases h s hs with ⟨e, h⟩ | ⟨m, c, e, q1, e1, e2, q2⟩
    · refine Or.inl ⟨e, fun m c hm => ?_⟩
      rcases hm with hm | ⟨rfl, -⟩
      · exact h m c hm
      · exact fun z => es z.symm
    · refine Or.inr ⟨m, c, e, Or.inl q1, e1, e2, fun c' hc' => ?_⟩
      rcases hc' with hc' | ⟨rfl, -⟩
      · exact q2 c' hc'
      · exact absurd e.symm es
theorem Tab.has {np la : Nat} {P : Nat × Nat → Nat → Prop} {A B : Nat → Int32} {m0 : Nat × Nat} {c0 c : Nat} (hnp : np ≤ 8) (h : Tab la P A B) (hP : POk np la P) (hG : GM np la m0) (hc : c ≤ c0) (hm : P m0 c) : Tab la (fun m c => P m c ∨ (m = m0 ∧ c = c0)) A B :=
  h.cong (fun _ _ z => Or.inl z) (fun m' c' z => by
    rcases z with z | ⟨rfl, rfl⟩
    · exact ⟨c', Nat.le_refl _, z⟩
    · exact ⟨c, hc, hm⟩)
theorem m_reach {np la : Nat} {P : Nat × Nat → Nat → Prop} {m0 : Nat × Nat} {c0 : Nat} (hWf : Wf ω) (hd : 2 ≤ d) (hnp : np ≤ 8) (hla : σ.1 898 = nI la) (hla2 : la ≤ 2) (hT : Tab la P (σ.2.1 26) (σ.2.1 27)) (hP : POk np la P) (hG : GM np la m0) (hc0 : c0 ≤ 1000) :
    Sp ω l yX1_reach cX1_reach 4 none d [.ref (ω.2.2.1 23), .int (mI m0), .int (nI c0)] σ (fun v σ' => v = none ∧ Tab la (fun m c => P m c ∨ (m = m0 ∧ c = c0)) (σ'.2.1 26) (σ'.2.1 27) ∧ Eqx [] [26, 27] σ σ') := by
  refine Sp.of (by decide) (Nat.le_of_ble_eq_true rfl) hWf (fun κ K => ?_)
  have es := slI hnp hla2 hG
  have hlt := slN_lt hnp hG
  have K2 := R_X1_reach_0 (σ := σ) (x1 := mI m0) (x2 := nI c0) K hd
  rw [hla] at K2
  rw [es, nI_clamp (by omega)] at K2
  refine K2 (vp_in_nI (by omega) (by omega)) (fun z => ⟨rfl, ?_, Eqx.rf⟩) (fun _ => vp_in_nI (by omega) (by omega)) (fun _ => vp_in_nI (by omega) (by omega)) (fun z => ⟨rfl, ?_, (Eqx.rf.pA (by simp) _ _).pA (by simp) _ _⟩)
  · rcases hT _ hlt with ⟨e, -⟩ | ⟨m, c, e, q1, e1, e2, q2⟩
    · rw [e, if_pos rfl] at z
      exact absurd z (by decide)
    · have em : m = m0 := slN_inj hnp (hP m c q1).1 hG e
      subst em
      have hc := (hP _ c q1).2
      have hne : ¬ nI c = -1 := fun z => absurd (show nI c < 0 by rw [z]; decide) (nI_pos (by omega))
      rw [e1, if_neg hne] at z
      by_cases z2 : nI c ≤ nI c0
      · exact hT.has hnp hP hG ((nI_leI (by omega) (by omega)).mp z2) q1
      · rw [if_neg z2] at z
        exact absurd z (by decide)
  · show Tab la _ (upd (σ.2.1 26) _ _) (upd (σ.2.1 27) _ _)
    refine hT.add hnp hP hG ?_
    rcases hT _ hlt with ⟨e, -⟩ | ⟨m, c, e, q1, e1, e2, q2⟩
    · exact Or.inl e
    · have hc := (hP m c q1).2
      have hne : ¬ nI c = -1 := fun z => absurd (show nI c < 0 by rw [z]; decide) (nI_pos (by omega))
      rw [e1, if_neg hne] at z
      refine Or.inr ⟨c, e1, ?_, hc⟩
      refine Classical.byContradiction fun z2 => z ?_
      rw [if_pos (nI_le (by omega) (by omega))]
end SWAY3
