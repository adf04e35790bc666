/-! ===== sway: the class's answer ===== -/
section SWAY5
variable {ω : WT} {l : Launch} {d : Nat} {a : Ab} {σ : St}
theorem vfa_out {κ : KT} {t : Tn} {F q : Nat} {want : Int32} {R : Nat × Nat → Nat → Prop} {post : Option Value → St → Prop} (hWf : Wf ω) (hd : 4 ≤ d) (hT : TC t σ) (hO : TO t) (h2 : 2 ≤ tnp t) (hme : σ.1 897 = nI (tme t)) (hla : σ.1 898 = nI (tla t)) (hF : F < 256) (hF3 : cb F 8 ≤ 3) (hR : ∀ m c, R m c → GM (tnp t) (tla t) m ∧ c ≤ 900) (hTb : Tab (tla t) R (σ.2.1 24) (σ.2.1 25)) (K : Cm ω κ l yX1_voteFromAll cX1_voteFromAll 11 d (some .int) post)
    (fin : ∀ x4 σ', Eqx [899, 900, 901] [26, 27] σ σ' → Tab (tla t) (PS t F q R 256) (σ'.2.1 26) (σ'.2.1 27) → Lst (-1) (QS t F q want R 256) x4 → post (some (.int x4)) (pF (pF σ' 24 (va_cpy (σ'.2.1 26) (σ'.2.1 24) 0 0 256)) 25 (va_cpy (σ'.2.1 27) (σ'.2.1 25) 0 0 256))) :
    ∀ j s x4 σq, s + j = 256 → Eqx [899, 900, 901] [26, 27] σ σq → Tab (tla t) (PS t F q R s) (σq.2.1 26) (σq.2.1 27) → Lst (-1) (QS t F q want R s) x4 → V ω κ 14 [(0, .ref (ω.2.2.1 23)), (1, .int (nI (bs (fun x => tws t x (tag t q)) (tnp t)))), (2, .int (nI F)), (3, .int want), (4, .int x4), (5, .int (nI s))] [] σq
  | 0, s, x4, σq, h, hE, hP, hL => by
    obtain rfl : s = 256 := by omega
    have hle : (256 : Int32) ≤ nI 256 := by decide
    refine R_X1_voteFromAll_14 K (by omega) (fun _ => by decide) (fun _ => by decide) (fun _ => by decide) (fun _ => by decide) (fun _ => by decide) (fun _ => by decide) (fun _ => by decide) (fun _ => by decide) (fun _ => by decide) (fun _ => by decide) (fun _ => fin x4 σq hE hP hL) (fun z_ => absurd hle z_) (fun z_ => absurd hle z_) (fun z_ => absurd hle z_) (fun z_ => absurd hle z_)
  | j + 1, s, x4, σq, h, hE, hP, hL => by
    have hge : ¬ (256 : Int32) ≤ nI s := fun z => absurd ((nI_leI (a := 256) (by decide) (by omega)).mp z) (by omega)
    have e24 : σq.2.1 24 = σ.2.1 24 := hE.2.1 24 (by decide)
    have e25 : σq.2.1 25 = σ.2.1 25 := hE.2.1 25 (by decide)
    have ih := vfa_out hWf hd hT hO h2 hme hla hF hF3 hR hTb K fin j (s + 1)
    have K2 := R_X1_voteFromAll_14 (σ := σq) (x1 := nI (bs (fun x => tws t x (tag t q)) (tnp t))) (x2 := nI F) (x3 := want) (x4 := x4) (x5 := nI s) K (by omega) (fun z_ => absurd z_ hge) (fun z_ => absurd z_ hge) (fun z_ => absurd z_ hge) (fun z_ => absurd z_ hge) (fun z_ => absurd z_ hge) (fun z_ => absurd z_ hge) (fun z_ => absurd z_ hge) (fun z_ => absurd z_ hge) (fun z_ => absurd z_ hge) (fun z_ => absurd z_ hge) (fun z_ => absurd z_ hge) (fun _ => vp_in_nI (by omega) (by omega))
    rw [nI_clamp (by omega), e24, e25] at K2
    rcases hTb s (by omega) with ⟨e, hn⟩ | ⟨m, c, e, q1, e1, e2, q2⟩
    · refine K2 (fun _ _ => ?_) (fun _ z_ => absurd e z_) (fun _ z_ => absurd e z_)
      rw [nI_1]
      refine ih x4 σq (by omega) hE (hP.cong (fun m c => ?_) (fun m c => ?_)) (hL.cong (fun c => ?_) (fun c => ?_))
      · rintro ⟨m', c', g, z1, z2⟩
        exact ⟨m', c', g, by omega, z2⟩
      · rintro ⟨m', c', g, z1, z2⟩
        have := hn m' c' z2.1.1
        exact ⟨c, Nat.le_refl _, m', c', g, by omega, z2⟩
      · rintro ⟨m', c', g, z1, z2⟩
        exact ⟨m', c', g, by omega, z2⟩
      · rintro ⟨m', c', g, z1, z2⟩
        have := hn m' c' z2.1.1
        exact ⟨c, Nat.le_refl _, m', c', g, by omega, z2⟩
    · obtain ⟨hG, hc⟩ := hR m c q1
      have hne : ¬ nI c = -1 := fun z => absurd (show nI c < 0 by rw [z]; decide) (nI_pos (by omega))
      have hp8 := p2_le8 hO.1
      refine K2 (fun _ z_ => absurd (e1.symm.trans z_) hne) (fun _ _ => vp_in_nI (by omega) (by omega)) (fun _ _ => ?_)
      have hm1 := hG.1
      have e255 : mI m &&& 255 = nI m.1 := by
        rw [show (255 : Int32) = nI (2 ^ 8 - 1) from rfl, fa_mask]
        congr 1
        omega
      rw [e2, e255, fa_and, show (0 : Int32) = nI 0 from rfl]
      have hself : (F &&& m.1) &&& (F &&& m.1) = F &&& m.1 := Nat.and_self _
      have hPS : POk (tnp t) (tla t) (PS t F q R s) := by
        rintro m2 c2 ⟨m', c', g, -, z2, -, rfl, rfl⟩
        obtain ⟨g1, g2⟩ := hR m' c' z2.1
        have := cb_le g 8
        exact ⟨GM.step (by omega) hO.1 hO.2.2.2.1 g1, by omega⟩
      have hQS : ∀ c, QS t F q want R s c → c ≤ 1000 := by
        rintro c2 ⟨m', c', g, -, z2, -, -, rfl⟩
        obtain ⟨g1, g2⟩ := hR m' c' z2.1
        have := cb_le g 8
        omega
      refine vfa_in hWf hd (hT.keep hE (by decide) (by decide)) hO h2 ((hE.1 897 (by decide)).trans hme) ((hE.1 898 (by decide)).trans hla) hF (by omega) hG hc (by rw [e24]; exact e2) (by rw [e25]; exact e1) hPS hQS K 8 0 (F &&& m.1) x4 σq (fun _ => False) (by omega) hself Eqx.rf
        (hP.cong (fun _ _ z => Or.inl z) (fun m2 c2 z => ⟨c2, Nat.le_refl _, z.elim id (fun z => z.elim (fun _ z => z.1.elim))⟩)) (hL.cong (fun _ z => Or.inl z) (fun c2 z => ⟨c2, Nat.le_refl _, z.elim id (fun z => z.elim (fun _ z => z.1.elim))⟩)) (fun x5 σ5 D5 hD5 hE5 hT5 hL5 => ?_)
      have hD6 : ∀ g, D5 g ↔ g &&& (F &&& m.1) = g := fun g => by rw [hD5, ptL_mem hF hF3]; simp
      have uni : ∀ m' c', slN (tla t) m' = s → Lm R m' c' → m' = m ∧ c' = c := by
        intro m' c' z1 z2
        have em : m' = m := slN_inj hO.1 (hR m' c' z2.1).1 hG (z1.trans e.symm)
        subst em
        exact ⟨rfl, Nat.le_antisymm (z2.2 _ q1) (q2 _ z2.1)⟩
      refine ih x5 σ5 (by omega) (hE.tr hE5) (hT5.cong (fun m2 c2 => ?_) (fun m2 c2 => ?_)) (hL5.cong (fun c2 => ?_) (fun c2 => ?_))
      · rintro (⟨m', c', g, z1, z2⟩ | ⟨g, z1, z2⟩)
        · exact ⟨m', c', g, by omega, z2⟩
        · exact ⟨m, c, g, by omega, ⟨q1, q2⟩, (hD6 g).mp z1, z2⟩
      · rintro ⟨m', c', g, z1, z2, z3, z4⟩
        refine ⟨c2, Nat.le_refl _, ?_⟩
        by_cases z5 : slN (tla t) m' = s
        · obtain ⟨rfl, rfl⟩ := uni m' c' z5 z2
          exact Or.inr ⟨g, (hD6 g).mpr z3, z4⟩
        · exact Or.inl ⟨m', c', g, by omega, z2, z3, z4⟩
      · rintro (⟨m', c', g, z1, z2⟩ | ⟨g, z1, z2⟩)
        · exact ⟨m', c', g, by omega, z2⟩
        · exact ⟨m, c, g, by omega, ⟨q1, q2⟩, (hD6 g).mp z1, z2⟩
      · rintro ⟨m', c', g, z1, z2, z3, z4⟩
        refine ⟨c2, Nat.le_refl _, ?_⟩
        by_cases z5 : slN (tla t) m' = s
        · obtain ⟨rfl, rfl⟩ := uni m' c' z5 z2
          exact Or.inr ⟨g, (hD6 g).mpr z3, z4⟩
        · exact Or.inl ⟨m', c', g, by omega, z2, z3, z4⟩
theorem Tab.ext {la : Nat} {P : Nat × Nat → Nat → Prop} {A B A' B' : Nat → Int32} (h : Tab la P A B) (hA : ∀ s, s < 256 → A' s = A s) (hB : ∀ s, s < 256 → B' s = B s) : Tab la P A' B' := by
  intro s hs
  rw [hA s hs, hB s hs]
  exact h s hs
theorem m_voteFromAll {t : Tn} {F q : Nat} {want : Int32} (hWf : Wf ω) (hd : 4 ≤ d) (hT : TC t σ) (hO : TO t) (h2 : 2 ≤ tnp t) (hme : σ.1 897 = nI (tme t)) (hla : σ.1 898 = nI (tla t)) (hF : F < 256) (hF3 : cb F 8 ≤ 3) (hq : q < 6) (hTb : Tab (tla t) (Rch t F q) (σ.2.1 24) (σ.2.1 25)) :
    Sp ω l yX1_voteFromAll cX1_voteFromAll 11 (some .int) d [.ref (ω.2.2.1 23), .int (nI (bs (fun x => tws t x (tag t q)) (tnp t))), .int (nI F), .int want] σ (fun v σ' => ∃ x4, v = some (.int x4) ∧ Lst (-1) (fun tot => ∃ m c, Rch t F q m c ∧ FinF t F want 0 q m c tot) x4 ∧ Tab (tla t) (Rch t F (q + 1)) (σ'.2.1 24) (σ'.2.1 25) ∧ Eqx [899, 900, 901] [24, 25, 26, 27] σ σ') := by
  refine Sp.of (by decide) (Nat.le_of_ble_eq_true rfl) hWf (fun κ K => R_X1_voteFromAll_0 K (by omega) ?_)
  have hE0 : Eqx [] [27] σ (pF σ 27 (fillF (σ.2.1 27) (-1) 256)) := Eqx.rf.pF (by simp) _
  have hR : ∀ m c, Rch t F q m c → GM (tnp t) (tla t) m ∧ c ≤ 900 := fun m c h => by
    have := Rch_ok hO h2 hF3 q m c h
    exact ⟨this.1, by omega⟩
  have hbest : ∀ m c, Rch t F q m c → ∃ c', c' ≤ c ∧ slN (tla t) m < 256 ∧ Lm (Rch t F q) m c' := by
    intro m c h
    have hG := (hR m c h).1
    have hlt := slN_lt hO.1 hG
    rcases hTb _ hlt with ⟨-, hn⟩ | ⟨m2, c2, e, q1, -, -, q2⟩
    · exact absurd rfl (hn m c h)
    · have em : m2 = m := slN_inj hO.1 (hR m2 c2 q1).1 hG e
      subst em
      exact ⟨c2, q2 c h, hlt, q1, q2⟩
  refine vfa_out hWf hd (hT.keep hE0 (by decide) (by decide)) hO h2 hme hla hF hF3 hR hTb K (fun x4 σ' hE hP hL => ?_) 256 0 (-1) _ (by omega) Eqx.rf (fun s hs => Or.inl ⟨if_pos hs, ?_⟩) (Or.inl ⟨rfl, ?_⟩)
  · refine ⟨x4, rfl, hL.cong ?_ ?_, (hP.cong ?_ ?_).ext (fun s hs => ?_) (fun s hs => ?_), ((((hE0.mono (by simp) (by simp)).tr (hE.mono (by simp) (by simp))).pF (by simp) _).pF (by simp) _)⟩
    · rintro c ⟨m', c', g, z1, z2, z3, z4, z5⟩
      exact ⟨m', c', z2.1, g, z3, z4, z5⟩
    · rintro c ⟨m', c', z2, g, z3, z4, z5⟩
      obtain ⟨c2, y1, y2, y3⟩ := hbest m' c' z2
      exact ⟨c2 + cb g 8, by omega, m', c2, g, y2, y3, z3, z4, rfl⟩
    · rintro m c ⟨m', c', g, z1, z2, z3, z4, z5⟩
      exact ⟨m', c', g, z2.1, z3, z4, z5⟩
    · rintro m c ⟨m', c', g, z2, z3, z4, z5⟩
      obtain ⟨c2, y1, y2, y3⟩ := hbest m' c' z2
      exact ⟨c2 + cb g 8, by omega, m', c2, g, y2, y3, z3, z4, rfl⟩
    · show va_cpy (σ'.2.1 26) (σ'.2.1 24) 0 0 256 s = _
      unfold va_cpy
      rw [if_pos ⟨by omega, by omega⟩, Nat.zero_add, Nat.sub_zero]
    · show va_cpy (σ'.2.1 27) (σ'.2.1 25) 0 0 256 s = _
      unfold va_cpy
      rw [if_pos ⟨by omega, by omega⟩, Nat.zero_add, Nat.sub_zero]
  · rintro m c ⟨m', c', g, z1, -⟩
    omega
  · rintro c ⟨m', c', g, z1, -⟩
    omega
theorem fs_loop {κ : KT} {t : Tn} {F : Nat} {want : Int32} {post : Option Value → St → Prop} (hWf : Wf ω) (hd : 5 ≤ d) (hT : TC t σ) (hO : TO t) (h2 : 2 ≤ tnp t) (hme : σ.1 897 = nI (tme t)) (hla : σ.1 898 = nI (tla t)) (hF : F < 256) (hF3 : cb F 8 ≤ 3) (K : Cm ω κ l yX1_fewestSayings cX1_fewestSayings 6 d (some .int) post)
    (fin : ∀ x4 σ', Lst (-1) (fun tot => ∃ m c, Rch t F (tit t - 1) m c ∧ FinF t F want 0 (tit t - 1) m c tot) x4 → Eqx [899, 900, 901] [24, 25, 26, 27] σ σ' → post (some (.int (if x4 = -1 then -9 else x4))) σ') :
    ∀ j q x4 σq, q + j = tit t → Eqx [899, 900, 901] [24, 25, 26, 27] σ σq → Tab (tla t) (Rch t F q) (σq.2.1 24) (σq.2.1 25) → (q ≠ 0 → Lst (-1) (fun tot => ∃ m c, Rch t F (q - 1) m c ∧ FinF t F want 0 (q - 1) m c tot) x4) → (j = 0 → q ≠ 0) → V ω κ 50 [(0, .ref (ω.2.2.1 23)), (1, .int (nI F)), (2, .int want), (4, .int x4), (5, .int (nI q))] [] σq
  | 0, q, x4, σq, h, hE, hTb, hL, h0 => by
    obtain rfl : q = tit t := by omega
    have hit := hO.2.2.2.2.1
    have hle : σq.1 644 ≤ nI (tit t) := by rw [hE.1 644 (by decide), hT.2.2.2.2.1]; exact nI_le (Nat.le_refl _) (by omega)
    exact R_X1_fewestSayings_50 K (fun _ => fin x4 σq (hL (h0 rfl)) hE) (fun z_ => absurd hle z_) (fun z_ => absurd hle z_) (fun z_ => absurd hle z_)
  | j + 1, q, x4, σq, h, hE, hTb, hL, h0 => by
    have hit := hO.2.2.2.2.1
    have hnm := hO.2.1
    have hTq : TC t σq := hT.keep hE (by decide) (by decide)
    have hge : ¬ σq.1 644 ≤ nI q := by
      rw [hTq.2.2.2.2.1]
      exact fun z => absurd ((nI_leI (by omega) (by omega)).mp z) (by omega)
    have hag := hO.2.2.2.2.2.2.1 q (by omega)
    refine R_X1_fewestSayings_50 K (fun z_ => absurd z_ hge) (fun _ => vp_in_nI (by omega) (by omega)) (fun _ => ?_) (fun _ => ?_)
    · rw [nI_clamp (by omega), hTq.2.2.2.2.2.2.2.2.2 q (by omega)]
      exact vp_in_nI (by omega) (by omega)
    · rw [nI_clamp (by omega), hTq.2.2.2.2.2.2.2.2.2 q (by omega), nI_clamp (by omega), hTq.2.2.2.2.2.2.2.2.1 _ hag]
      refine C_X1_fewestSayings_83 K (by omega) (m_voteFromAll hWf (by omega) hTq hO h2 ((hE.1 897 (by decide)).trans hme) ((hE.1 898 (by decide)).trans hla) hF hF3 (by omega) hTb) (fun v σ' hp => ?_)
      obtain ⟨x5, rfl, hL5, hT5, hE5⟩ := hp
      refine R_X1_fewestSayings_86 K ?_
      rw [nI_1]
      exact fs_loop hWf hd hT hO h2 hme hla hF hF3 K fin j (q + 1) x5 σ' (by omega) (hE.tr hE5) hT5 (fun _ => hL5) (fun _ => by omega)
theorem m_fewestSayings {t : Tn} {F : Nat} {want : Int32} (hWf : Wf ω) (hd : 5 ≤ d) (hT : TC t σ) (hO : TO t) (h2 : 2 ≤ tnp t) (hme : σ.1 897 = nI (tme t)) (hla : σ.1 898 = nI (tla t)) (hF : F < 256) (hF3 : cb F 8 ≤ 3) :
    Sp ω l yX1_fewestSayings cX1_fewestSayings 6 (some .int) d [.ref (ω.2.2.1 23), .int (nI F), .int want] σ (fun v σ' => ∃ r, v = some (.int r) ∧ Lst (-9) (FinF t F want (tit t - 1) 0 (op t) 0) r ∧ Eqx [899, 900, 901] [24, 25, 26, 27] σ σ') := by
  refine Sp.of (by decide) (Nat.le_of_ble_eq_true rfl) hWf (fun κ K => ?_)
  have hnp := hO.1
  have hp8 := p2_le8 hnp
  have hGo : GM (tnp t) (tla t) (op t) := GM.op h2 hnp
  have es := slI hnp hO.2.2.2.1 hGo
  have hlt := slN_lt hnp hGo
  have hit1 : 1 ≤ tit t := by
    rcases hO.2.2.2.2.2.2.2.2 with h | h
    · omega
    · exact h.2.2
  have K2 := R_X1_fewestSayings_0 (σ := σ) (x1 := nI F) (x2 := want) K (by omega)
  have hn1 : ¬ nI (tnp t) - 1 < 0 := by
    rw [show (1 : Int32) = nI 1 from rfl, pk_sub (by omega)]
    exact nI_pos (by omega)
  have eop : (if nI (tnp t) - 1 < 0 then (0 : Int32) else nI (tnp t) - 1) * 256 + (((1 : Int32) <<< (nI (tnp t) &&& 31)) - 1) = nI ((op t).2 * 256 + (op t).1) := by
    rw [if_neg hn1, nI_all hnp, show (1 : Int32) = nI 1 from rfl, pk_sub (by omega), show (256 : Int32) = nI 256 from rfl, pk_mul, nI_add]
  rw [hT.1, hla] at K2
  rw [eop] at K2
  rw [es, nI_clamp (by omega)] at K2
  refine K2 (vp_in_nI (by omega) (by omega)) (vp_in_nI (by omega) (by omega)) ?_
  have hE0 : Eqx [899, 900, 901] [24, 25, 26, 27] σ (pA (pA (pF σ 25 (fillF (σ.2.1 25) (-1) 256)) 24 (slN (tla t) (op t)) (nI ((op t).2 * 256 + (op t).1))) 25 (slN (tla t) (op t)) 0) := ((Eqx.rf.pF (by simp) _).pA (by simp) _ _).pA (by simp) _ _
  have hT0 : Tab (tla t) (fun _ _ => False) (σ.2.1 24) (fillF (σ.2.1 25) (-1) 256) := fun s hs => Or.inl ⟨if_pos hs, fun _ _ z => z.elim⟩
  have hT1 := hT0.add (c0 := 0) hnp (fun _ _ z => z.elim) hGo (Or.inl (if_pos hlt))
  refine fs_loop hWf hd (hT.keep hE0 (by decide) (by decide)) hO h2 hme hla hF hF3 K (fun x4 σ' hL hE => ⟨_, rfl, ?_, hE0.tr hE⟩) (tit t) 0 (-1) _ (by omega) Eqx.rf (hT1.cong (fun m c z => z.elim False.elim id) (fun m c z => ⟨c, Nat.le_refl _, Or.inr z⟩)) (fun z => absurd rfl z) (fun z => by omega)
  have hfr := fun tot => Fin_Rch (t := t) (F := F) (want := want) (tot := tot) (tit t - 1) 0
  rw [Nat.zero_add] at hfr
  have hL2 : Lst (-1) (FinF t F want (tit t - 1) 0 (op t) 0) x4 := hL.cong (fun tot z => by
    obtain ⟨m, c, ⟨rfl, rfl⟩, z⟩ := (hfr tot).mpr z
    exact z) (fun tot z => ⟨tot, Nat.le_refl _, (hfr tot).mp ⟨op t, 0, ⟨rfl, rfl⟩, z⟩⟩)
  have hbd : ∀ tot, FinF t F want (tit t - 1) 0 (op t) 0 tot → tot ≤ 1000 := by
    intro tot z
    obtain ⟨m, c, z1, g, -, -, rfl⟩ := (hfr tot).mp ⟨op t, 0, ⟨rfl, rfl⟩, z⟩
    have := (Rch_ok hO h2 hF3 _ m c z1).2
    have := cb_le g 8
    have := hO.2.2.2.2.1
    omega
  rcases hL2 with ⟨rfl, hn⟩ | ⟨c, rfl, q1, q2⟩
  · exact Or.inl ⟨if_pos rfl, hn⟩
  · have hc := hbd c q1
    have hne : ¬ nI c = -1 := fun z => absurd (show nI c < 0 by rw [z]; decide) (nI_pos (by omega))
    exact Or.inr ⟨c, if_neg hne, q1, q2⟩
def swF (np : Nat) (x : Int32) : Option Nat := if x.toBitVec.toNat < 2 ^ np ∧ 1 ≤ cb x.toBitVec.toNat 8 ∧ cb x.toBitVec.toNat 8 ≤ 3 then some x.toBitVec.toNat else none
noncomputable def o_sway (a : Ab) (x w : Int32) : Int32 := match swF (tnp (att a)) x with
  | none => -2
  | some F => match ix w 2 with
    | none => -2
    | some j => Classical.epsilon (Lst (-9) (FinF (att a) F (nI j) (tit (att a) - 1) 0 (op (att a)) 0))
theorem nI_self (x : Int32) : x = nI x.toBitVec.toNat := nI_ext (fun _ _ => rfl)
theorem cb_pos : ∀ F, F < 256 → (F ≠ 0 ↔ 1 ≤ cb F 8) := by decide +kernel
theorem swF_some {np F : Nat} {x : Int32} (h : swF np x = some F) : x = nI F ∧ F < 2 ^ np ∧ 1 ≤ cb F 8 ∧ cb F 8 ≤ 3 := by
  unfold swF at h
  split at h
  · rename_i z
    cases h
    exact ⟨nI_self x, z⟩
  · cases h
theorem low_and {np : Nat} {x : Int32} (hnp : np ≤ 8) : x &&& (nI (2 ^ np - 1) ^^^ -1) = 0 ↔ x.toBitVec.toNat < 2 ^ np := by
  constructor
  · intro h
    refine Nat.lt_pow_two_of_testBit _ (fun i hi => ?_)
    by_cases h32 : i < 32
    · have e := congrArg (fun z : Int32 => z.toBitVec.getLsbD i) h
      have e1 : (-1 : Int32).toBitVec = BitVec.allOnes 32 := by decide
      simp only [Int32.toBitVec_and, Int32.toBitVec_xor, BitVec.getLsbD_and, BitVec.getLsbD_xor, e1, nI_tb, BitVec.getLsbD_allOnes] at e
      rw [all_bit] at e
      have e2 : (0 : Int32).toBitVec.getLsbD i = false := by simp
      rw [e2] at e
      have hn : ¬ i < np := by omega
      simp [h32, hn] at e
      exact e
    · exact Nat.testBit_lt_two_pow (Nat.lt_of_lt_of_le x.toBitVec.isLt (Nat.pow_le_pow_right (by omega) (by omega)))
  · intro h
    have e := nI_andnot (b := 2 ^ np - 1) h
    rw [← nI_self] at e
    rw [e]
    have e2 : bs (fun i => x.toBitVec.toNat.testBit i && !(2 ^ np - 1).testBit i) np = bs (fun _ => false) np := bs_cong (fun i hi => by rw [all_bit]; simp [hi])
    rw [e2]
    have e3 : ∀ n, bs (fun _ => false) n = 0 := by
      intro n
      induction n with
      | zero => rfl
      | succ n ih => rw [bs, ih]; rfl
    rw [e3]
    rfl
end SWAY5
