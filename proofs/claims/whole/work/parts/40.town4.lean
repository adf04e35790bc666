/-! ===== town: readTown, the model's town ===== -/
section TOWN4
variable {ω : WT} {l : Launch} {d : Nat} {a : Ab} {σ : St}
def RTp (g : Nat → Int32) (b n : Nat) (σ : St) : Option Value → St → Prop := fun v σ' =>
  (v = some (.int 0) ∧ ∃ r, ffS g n = some r ∧ σ'.1 2253 = nI (b + r) ∧ Eqx [2253, 2254, 2255] [42, 43] σ σ') ∨
  (v = some (.int 1) ∧ ffS g n = none ∧ σ'.1 2254 = nI ((n - 2) / wS g) ∧ σ'.1 2255 = nI (wS g - 2) ∧ (∀ y, y < (n - 2) / wS g → σ'.2.1 42 y = nI (nkd g (wS g) y) ∧ σ'.2.1 43 y = nI (bs (nws g (wS g) y) (wS g - 2))) ∧ Eqx [2253, 2254, 2255] [42, 43] σ σ')
theorem readTown_loop {κ : KT} {b n m : Nat} {g : Nat → Int32} (hWf : Wf ω) (hb : b + n ≤ 320) (hm1 : 1 ≤ m) (hm : m ≤ 6) (hn2 : 2 ≤ n) (hw : wS g = m + 2) (hff : ffS g n = scS (gdS g (m + 2)) (enS (m + 2) n) n (n - 2) 2) (hg : ∀ q, q < n → σ.2.1 38 (b + q) = g q) (hd : 2 ≤ d) (K : Cm ω κ l yX9_readTown cX9_readTown 2 d (some .boolean) (RTp g b n σ)) :
    ∀ k x σq, x + k = 8 → 2 + x * (m + 2) ≤ n → (∀ r, 2 ≤ r → r < 2 + x * (m + 2) → gdS g (m + 2) r = true) → σq.1 2253 = nI (b + (2 + x * (m + 2))) → σq.1 2254 = nI x → σq.1 2255 = nI m → (∀ y, y < x → σq.2.1 42 y = nI (nkd g (m + 2) y) ∧ σq.2.1 43 y = nI (bs (nws g (m + 2) y) m)) → Eqx [2253, 2254, 2255] [42, 43] σ σq → V ω κ 82 [(0, .ref (ω.2.2.1 35)), (1, .int (nI (b + n)))] [] σq := by
  intro k
  induction k with
  | zero =>
    intro x σq h hn hgd h53 h54 h55 hy hE
    obtain rfl : x = 8 := by omega
    have x2 : ¬ σq.1 2254 < 2 := by rw [h54]; decide
    have x8 : σq.1 2254 = 8 := by rw [h54]; rfl
    refine R_X9_readTown_82 K (by omega) (fun z_ => absurd z_ x2) (fun z_ => absurd z_ x2) (fun z_ => absurd z_ x2) (fun z_ => absurd z_ x2) (fun _ z_ => ?_) (fun _ z_ _ => ?_) (fun _ _ z_ => absurd x8 z_) (fun _ _ z_ => absurd x8 z_) (fun _ _ z_ => absurd x8 z_)
    · rw [h53] at z_
      have hnn : n = 2 + 8 * (m + 2) := by have := (nI_leI (by omega) (by omega)).mp z_; omega
      have hdv : (n - 2) / (m + 2) = 8 := by rw [hnn, show 2 + 8 * (m + 2) - 2 = (m + 2) * 8 by omega]; exact Nat.mul_div_cancel_left _ (by omega)
      have hmd : (n - 2) % (m + 2) = 0 := by rw [hnn, show 2 + 8 * (m + 2) - 2 = (m + 2) * 8 by omega]; exact Nat.mul_mod_right _ _
      refine Or.inr ⟨rfl, ?_, ?_, ?_, ?_, hE⟩
      · rw [hff, scS_end hn2 (fun r h1 h2 => hgd r h1 (by omega))]
        unfold enS
        rw [hdv, hmd]
        rfl
      · rw [hw, hdv]; exact h54
      · rw [hw]; exact h55
      · rw [hw, hdv]; exact hy
    · rw [h53] at z_
      have hlt : 2 + 8 * (m + 2) < n := by
        have : ¬ b + n ≤ b + (2 + 8 * (m + 2)) := fun y => z_ (nI_le y (by omega))
        omega
      refine Or.inl ⟨rfl, _, ?_, h53, hE⟩
      rw [hff]
      refine scS_bad (by omega) hlt hgd ?_
      have g8 : gdS g (m + 2) (2 + 8 * (m + 2)) = (decide (8 < 8) && goS 0 (g (2 + 8 * (m + 2)))) := gd_eq (g := g) (w := m + 2) (x := 8) (o := 0) (by omega)
      rw [g8]
      rfl
  | succ k ih =>
    intro x σq h hn hgd h53 h54 h55 hy hE
    have x8 : ¬ σq.1 2254 = 8 := by
      rw [h54]
      exact fun z => absurd ((nI_eq (b := 8) (by omega) (by decide)).mp z) (by omega)
    have i2 : σq.1 2254 < 2 ↔ x < 2 := by rw [h54]; exact nI_ltI (b := 2) (by omega) (by decide)
    have hgq : ∀ q, q < n → σq.2.1 38 (b + q) = g q := fun q hq => by rw [hE.2.1 38 (by decide)]; exact hg q hq
    have ic := icI (code := 59) h53 hb hn hgq
    have hin : ¬ nI (b + n) ≤ σq.1 2253 → vp_in (σq.1 2253) 320 := fun z => by
      rw [h53] at z ⊢
      have : ¬ b + n ≤ b + (2 + x * (m + 2)) := fun y => z (nI_le y (by omega))
      exact vp_in_nI (by omega) (by omega)
    have hdv : (2 + x * (m + 2) - 2) / (m + 2) = x := by rw [show 2 + x * (m + 2) - 2 = (m + 2) * x by rw [Nat.mul_comm]; omega]; exact Nat.mul_div_cancel_left _ (by omega)
    have hmd : (2 + x * (m + 2) - 2) % (m + 2) = 0 := by rw [show 2 + x * (m + 2) - 2 = (m + 2) * x by rw [Nat.mul_comm]; omega]; exact Nat.mul_mod_right _ _
    have g0 : gdS g (m + 2) (2 + x * (m + 2)) = (decide (x < 8) && goS 0 (g (2 + x * (m + 2)))) := gd_eq (g := g) (w := m + 2) (x := x) (o := 0) (by omega)
    have bad : ¬ (2 + x * (m + 2) < n ∧ g (2 + x * (m + 2)) = 59) → (2 + x * (m + 2) < n ∨ x < 2) → RTp g b n σ (some (.int 0)) σq := fun z y => by
      refine Or.inl ⟨rfl, _, ?_, h53, hE⟩
      rw [hff]
      by_cases hlt : 2 + x * (m + 2) < n
      · refine scS_bad (by omega) hlt hgd ?_
        have ng : ¬ g (2 + x * (m + 2)) = 59 := fun q => z ⟨hlt, q⟩
        rw [g0]
        unfold goS
        rw [if_pos rfl]
        simp [ng]
      · have hnn : 2 + x * (m + 2) = n := by omega
        have hx2 : x < 2 := y.resolve_left hlt
        rw [scS_end hn2 (fun r h1 h2 => hgd r h1 (by omega))]
        unfold enS
        rw [← hnn, hdv, decide_eq_false (by omega)]
        rfl
    have go : 2 + x * (m + 2) < n ∧ g (2 + x * (m + 2)) = 59 → V ω κ 131 [(0, .ref (ω.2.2.1 35)), (1, .int (nI (b + n)))] [.int (nI (b + n)), .ref (ω.2.2.1 35)] (pS σq 2253 (σq.1 2253 + 1)) := fun z => by
      rw [h53, nI_1]
      have hE1 : Eqx [2253] [] σq (pS σq 2253 (nI (b + (2 + x * (m + 2)) + 1))) := Eqx.rf.pS (by simp) _
      refine C_X9_readTown_131 K (by omega) (m_readOne (g := g) (n := n) (m := m) (x := x) hWf (by omega) hb (by omega) hm (by rw [Nat.add_assoc b]; rfl) h54 h55 hgq (by omega)) (fun v σ' hp => ?_)
      have hgx : gdS g (m + 2) (2 + x * (m + 2)) = true := by
        rw [g0, decide_eq_true (show x < 8 by omega), z.2]
        rfl
      rcases hp with ⟨rfl, o, o1, o2, o3, o4, o5, o6, o7⟩ | ⟨rfl, p1, p2, p3, p4, p5, p6, p7⟩
      · have hE' : Eqx [2253, 2254, 2255] [42, 43] σ σ' := (hE.tr (hE1.mono (by simp) (by simp))).tr (o7.mono (by simp) (by simp))
        refine R_X9_readTown_134 K (fun z_ => absurd rfl z_) (fun _ => Or.inl ⟨rfl, _, ?_, o6, hE'⟩)
        rw [hff]
        have hall : ∀ r, 2 ≤ r → r < 2 + x * (m + 2) + o → gdS g (m + 2) r = true := fun r h1 h2 => by
          by_cases y : r < 2 + x * (m + 2)
          · exact hgd r h1 y
          · by_cases y2 : r = 2 + x * (m + 2)
            · rw [y2]; exact hgx
            · have := o4 (r - (2 + x * (m + 2))) (by omega) (by omega)
              have e := gd_eq (g := g) (w := m + 2) (x := x) (o := r - (2 + x * (m + 2))) (by omega)
              rw [show 2 + x * (m + 2) + (r - (2 + x * (m + 2))) = r by omega] at this e
              rw [e, this, decide_eq_true (show x < 8 by omega)]
              rfl
        by_cases hlt : 2 + x * (m + 2) + o < n
        · refine scS_bad (by omega) hlt hall ?_
          rw [gd_eq o2, o5 hlt, Bool.and_false]
        · have hnn : 2 + x * (m + 2) + o = n := by omega
          rw [scS_end hn2 (fun r h1 h2 => hall r h1 (by omega))]
          unfold enS
          have : (n - 2) % (m + 2) = o := by rw [← hnn, show 2 + x * (m + 2) + o - 2 = (m + 2) * x + o by rw [Nat.mul_comm]; omega, Nat.mul_add_mod, Nat.mod_eq_of_lt o2]
          rw [this, decide_eq_false (by omega), hnn]
          rfl
      · have hE' : Eqx [2253, 2254, 2255] [42, 43] σ σ' := (hE.tr (hE1.mono (by simp) (by simp))).tr (p7.mono (by simp) (by simp))
        refine R_X9_readTown_134 K (fun _ => ?_) (fun z_ => absurd z_ (by decide))
        have ex : 2 + (x + 1) * (m + 2) = 2 + x * (m + 2) + (m + 2) := by rw [Nat.add_mul]; omega
        refine ih (x + 1) σ' (by omega) (by omega) (fun r h1 h2 => ?_) (by rw [ex]; exact p3) p4 ((p7.1 2255 (by decide)).trans h55) (fun y hy2 => ?_) hE'
        · by_cases y : r < 2 + x * (m + 2)
          · exact hgd r h1 y
          · by_cases y2 : r = 2 + x * (m + 2)
            · rw [y2]; exact hgx
            · have := p2 (r - (2 + x * (m + 2))) (by omega) (by omega)
              have e := gd_eq (g := g) (w := m + 2) (x := x) (o := r - (2 + x * (m + 2))) (by omega)
              rw [show 2 + x * (m + 2) + (r - (2 + x * (m + 2))) = r by omega] at this e
              rw [e, this, decide_eq_true (show x < 8 by omega)]
              rfl
        · rw [p5, p6]
          by_cases y2 : y = x
          · subst y2
            exact ⟨pk_us, pk_us⟩
          · rw [pk_un y2, pk_un y2]
            exact hy y (by omega)
    refine R_X9_readTown_82 K (by omega) (fun _ z_ => absurd z_ x8) (fun _ _ z_ => hin z_) (fun _ _ z_ => ?_) (fun y_ _ z_ => ?_) (fun y_ z_ => ?_) (fun _ _ z_ => absurd z_ x8) (fun _ _ _ z_ => hin z_) (fun _ _ _ z_ => ?_) (fun _ y_ _ z_ => ?_)
    · rw [ic] at z_
      exact go (ic1 z_)
    · rw [ic] at z_
      exact bad (ic0 z_) (Or.inr (i2.mp y_))
    · rw [h53] at z_
      have hnn : 2 + x * (m + 2) = n := by have := (nI_leI (by omega) (by omega)).mp z_; omega
      have hx2 : ¬ x < 2 := fun z => y_ (i2.mpr z)
      refine Or.inr ⟨rfl, ?_, ?_, ?_, ?_, hE⟩
      · rw [hff, scS_end hn2 (fun r h1 h2 => hgd r h1 (by omega))]
        unfold enS
        rw [← hnn, hdv, hmd, decide_eq_true (by omega)]
        rfl
      · rw [hw, ← hnn, hdv]; exact h54
      · rw [hw]; exact h55
      · rw [hw, ← hnn, hdv]; exact hy
    · rw [ic] at z_
      exact go (ic1 z_)
    · rw [ic] at z_
      rw [h53] at y_
      refine bad (ic0 z_) (Or.inl ?_)
      have : ¬ b + n ≤ b + (2 + x * (m + 2)) := fun y => y_ (nI_le y (by omega))
      omega
theorem m_readTown {b n : Nat} {g : Nat → Int32} (hWf : Wf ω) (hd : 2 ≤ d) (hb : b + n ≤ 320) (h53 : σ.1 2253 = nI b) (hg : ∀ q, q < n → σ.2.1 38 (b + q) = g q) : Sp ω l yX9_readTown cX9_readTown 2 (some .boolean) d [.ref (ω.2.2.1 35), .int (nI (b + n))] σ (RTp g b n σ) := by
  refine Sp.of (by decide) (Nat.le_of_ble_eq_true rfl) hWf (fun κ K => ?_)
  have ic := icI (p := 0) (code := 109) (σ := σ) h53 hb (Nat.zero_le _) hg
  have i1 : nI (b + n) ≤ σ.1 2253 + 1 ↔ n ≤ 1 := by
    rw [h53, nI_1, nI_leI (by omega) (by omega)]
    omega
  have hin : ¬ nI (b + n) ≤ σ.1 2253 → vp_in (σ.1 2253) 320 := fun z => by
    rw [h53] at z ⊢
    have : ¬ b + n ≤ b := fun y => z (nI_le y (by omega))
    exact vp_in_nI (by omega) (by omega)
  have hin1 : ¬ nI (b + n) ≤ σ.1 2253 + 1 → vp_in (σ.1 2253 + 1) 320 := fun z => by
    have : ¬ n ≤ 1 := fun y => z (i1.mpr y)
    rw [h53, nI_1]
    exact vp_in_nI (by omega) (by omega)
  have hE1 : Eqx [2253, 2254, 2255] [42, 43] σ (pS σ 2253 (σ.1 2253 + 1)) := Eqx.rf.pS (by simp) _
  have e1 : (pS σ 2253 (σ.1 2253 + 1)).1 2253 = nI (b + 1) := by
    show σ.1 2253 + 1 = _
    rw [h53, nI_1]
  refine R_X9_readTown_0 K (by omega) hin (fun z_ y_ => ?_) (fun _ y_ => hin1 y_) (fun _ y_ _ => hin1 y_) (fun z_ y_ x_ => ?_) (fun z_ y_ x_ => ?_) (fun z_ => ?_)
  · rw [ic] at z_
    have z := ic1 z_
    have y := i1.mp y_
    refine Or.inl ⟨rfl, 1, ?_, e1, hE1⟩
    unfold ffS
    rw [if_neg (fun q => q.elim (fun q => by omega) (fun q => q z.2)), if_pos (Or.inl (by omega))]
  · rw [ic] at z_
    have z := ic1 z_
    have y : ¬ n ≤ 1 := fun q => y_ (i1.mpr q)
    have ec : σ.2.1 38 (σ.1 2253 + 1).toNatClampNeg = g 1 := by rw [h53, nI_1, nI_clamp (by omega)]; exact hg 1 (by omega)
    rw [ec] at x_ ⊢
    have x1 : ¬ g 1 < 49 := fun q => x_ (by rw [if_pos q])
    have x2 : ¬ 54 < g 1 := fun q => x_ (by rw [if_neg x1, if_pos q])
    obtain ⟨m, m1, m2, m3, m4, m5⟩ := dig x1 x2
    have hwS : wS g = m + 2 := by unfold wS; rw [m4]; omega
    have hff : ffS g n = scS (gdS g (m + 2)) (enS (m + 2) n) n (n - 2) 2 := by
      unfold ffS
      rw [if_neg (fun q => q.elim (fun q => by omega) (fun q => q z.2)), if_neg (fun q => q.elim (fun q => by omega) (fun q => q.elim x1 x2)), hwS]
    rw [h53, nI_1, nI_1, m5]
    refine readTown_loop hWf hb m1 m2 (by omega) hwS hff hg hd K 8 0 _ (by omega) (by omega) (fun r q1 q2 => absurd q2 (by omega)) ?_ rfl rfl (fun y hy => absurd hy (by omega)) ((((Eqx.rf.pS (by simp) _).pS (by simp) _).pS (by simp) _).pS (by simp) _)
    rw [Nat.zero_mul]
    rfl
  · rw [ic] at z_
    have z := ic1 z_
    have y : ¬ n ≤ 1 := fun q => y_ (i1.mpr q)
    have ec : σ.2.1 38 (σ.1 2253 + 1).toNatClampNeg = g 1 := by rw [h53, nI_1, nI_clamp (by omega)]; exact hg 1 (by omega)
    rw [ec] at x_
    refine Or.inl ⟨rfl, 1, ?_, e1, hE1⟩
    unfold ffS
    rw [if_neg (fun q => q.elim (fun q => by omega) (fun q => q z.2)), if_pos]
    right
    by_cases q : g 1 < 49
    · exact Or.inl q
    · rw [if_neg q] at x_
      by_cases q2 : 54 < g 1
      · exact Or.inr q2
      · rw [if_neg q2] at x_
        exact absurd x_ (by decide)
  · rw [ic] at z_
    have z := ic0 z_
    refine Or.inl ⟨rfl, 0, ?_, h53, Eqx.rf⟩
    unfold ffS
    rw [if_pos]
    by_cases q : n < 1
    · exact Or.inl q
    · exact Or.inr (fun q2 => z ⟨by omega, q2⟩)
theorem townM_copy {κ : KT} {np : Nat} (hnp : np ≤ 8) (h45 : σ.1 2245 = nI np) {post : Option Value → St → Prop} (K : Cm ω κ l yX9_town cX9_town 8 d (some .int) post)
    (fin : ∀ σ', Eqx [] [39, 40] σ σ' → (∀ y, y < np → σ'.2.1 39 y = σ.2.1 42 y ∧ σ'.2.1 40 y = σ.2.1 43 y) → V ω κ 167 [(0, .ref (ω.2.2.1 35)), (7, .int 0)] [] (pS (pS (pS σ' 2249 0) 2250 0) 2251 (σ'.1 2246))) :
    ∀ k x σq, x + k = np → Eqx [] [39, 40] σ σq → (∀ y, y < x → σq.2.1 39 y = σ.2.1 42 y ∧ σq.2.1 40 y = σ.2.1 43 y) → V ω κ 103 [(0, .ref (ω.2.2.1 35)), (7, .int (nI x))] [] σq
  | 0, x, σq, h, hE, hy => by
    obtain rfl : x = np := by omega
    have hle : σq.1 2245 ≤ nI x := by rw [hE.1 2245 (by decide), h45]; exact nI_le (Nat.le_refl _) (by omega)
    exact R_X9_town_103 K (fun _ => fin σq hE hy) (fun z_ => absurd hle z_) (fun z_ => absurd hle z_) (fun z_ => absurd hle z_) (fun z_ => absurd hle z_) (fun z_ => absurd hle z_)
  | k + 1, x, σq, h, hE, hy => by
    have hge : ¬ σq.1 2245 ≤ nI x := by
      rw [hE.1 2245 (by decide), h45]
      exact fun z => absurd ((nI_leI (by omega) (by omega)).mp z) (by omega)
    have hin : vp_in (nI x) 8 := vp_in_nI (by omega) (by omega)
    refine R_X9_town_103 K (fun z_ => absurd z_ hge) (fun _ => hin) (fun _ => hin) (fun _ => hin) (fun _ => hin) (fun _ => ?_)
    rw [nI_clamp (by omega), nI_1, hE.2.1 42 (by decide), hE.2.1 43 (by decide)]
    refine townM_copy hnp h45 K fin k (x + 1) _ (by omega) ((hE.pA (by simp) _ _).pA (by simp) _ _) (fun y hy2 => ?_)
    show upd (σq.2.1 39) x _ y = _ ∧ upd (σq.2.1 40) x _ y = _
    by_cases z : y = x
    · subst z; rw [pk_us, pk_us]; exact ⟨rfl, rfl⟩
    · rw [pk_un z, pk_un z]; exact hy y (by omega)
theorem townM_ag {κ : KT} {m : Nat} (hm : m ≤ 6) (h46 : σ.1 2246 = nI m) {post : Option Value → St → Prop} (K : Cm ω κ l yX9_town cX9_town 8 d (some .int) post)
    (fin : ∀ σ', Eqx [] [41] σ σ' → (∀ r, r < m → σ'.2.1 41 r = nI r) → post (some (.int (σ'.1 2245))) σ') :
    ∀ k q σq, q + k = m → Eqx [] [41] σ σq → (∀ r, r < q → σq.2.1 41 r = nI r) → V ω κ 167 [(0, .ref (ω.2.2.1 35)), (7, .int (nI q))] [] σq
  | 0, q, σq, h, hE, hy => by
    obtain rfl : q = m := by omega
    have hle : σq.1 2246 ≤ nI q := by rw [hE.1 2246 (by decide), h46]; exact nI_le (Nat.le_refl _) (by omega)
    exact R_X9_town_167 K (fun _ => fin σq hE hy) (fun z_ => absurd hle z_) (fun z_ => absurd hle z_)
  | k + 1, q, σq, h, hE, hy => by
    have hge : ¬ σq.1 2246 ≤ nI q := by
      rw [hE.1 2246 (by decide), h46]
      exact fun z => absurd ((nI_leI (by omega) (by omega)).mp z) (by omega)
    refine R_X9_town_167 K (fun z_ => absurd z_ hge) (fun _ => vp_in_nI (by omega) (by omega)) (fun _ => ?_)
    rw [nI_clamp (by omega), nI_1]
    refine townM_ag hm h46 K fin k (q + 1) _ (by omega) (hE.pA (by simp) _ _) (fun r hr => ?_)
    show upd (σq.2.1 41) q _ r = _
    by_cases z : r = q
    · subst z; rw [pk_us]
    · rw [pk_un z]; exact hy r (by omega)
theorem d_town {k sort i n : Int32} (hWf : Wf ω) (hd : 3 ≤ d) (hA : AO a) (hR : RM a σ) : Sp ω l yX9_town cX9_town 8 (some .int) d [.ref (ω.2.2.1 35), .int k, .int sort, .int i, .int n] σ (PM (o_town a k sort i n).1 (o_town a k sort i n).2 σ) := by
  have h9 := hR.fl 0
  have hE : EM σ (pS σ 2240 0) := EM.rf.s (by decide) _
  have hov : ∀ w, pS (pS σ 2240 0) 2240 w = pS σ 2240 w := fun w => pS_over σ 2240 0 w
  refine Sp.of (by decide) (Nat.le_of_ble_eq_true rfl) hWf (fun κ K => ?_)
  by_cases h0 : (if k < 0 then (0 : Int32) else (if 3 < k then 0 else 1)) = 0
  · have hw : o_why a k sort i n = (-1, setFl a 0) := by unfold o_why; simp only [rgm0 (n := 3) (by decide) h0]
    have ho : o_town a k sort i n = (-1, setFl a 0) := by unfold o_town; rw [hw]; exact if_neg (show ¬ (-1 : Int32) = 0 by decide)
    rw [ho] at K
    exact R_X9_town_0 K (by omega) (fun q_ => absurd h0 q_) (fun q_ => absurd h0 q_) (fun q_ => absurd h0 q_) (fun q_ => absurd h0 q_) (fun q_ => absurd h0 q_) (fun q_ => absurd h0 q_) (fun q_ => absurd h0 q_) (fun q_ => absurd h0 q_) (fun q_ => absurd h0 q_) (fun q_ => absurd h0 q_) (fun q_ => absurd h0 q_) (fun _ => PM.at rfl h9 hE)
  obtain ⟨j, hj, rfl, e⟩ := rgm1 (n := 3) (by decide) h0
  have hj : j < 4 := by omega
  have hin : vp_in (nI j) 4 := vp_in_nI (by omega) (by omega)
  have hcl : (nI j).toNatClampNeg = j := nI_clamp (by omega)
  by_cases h1 : (if sort < 0 then (0 : Int32) else (if 2 < sort then 0 else 1)) = 0
  · have hw : o_why a (nI j) sort i n = (-2, setFl a 0) := by unfold o_why; simp only [e, rgm0 (n := 2) (by decide) h1]
    have ho : o_town a (nI j) sort i n = (-2, setFl a 0) := by unfold o_town; rw [hw]; exact if_neg (show ¬ (-2 : Int32) = 0 by decide)
    rw [ho] at K
    exact R_X9_town_0 K (by omega) (fun _ q_ => absurd h1 q_) (fun _ q_ => absurd h1 q_) (fun _ q_ => absurd h1 q_) (fun _ q_ => absurd h1 q_) (fun _ q_ => absurd h1 q_) (fun _ q_ => absurd h1 q_) (fun _ q_ => absurd h1 q_) (fun _ q_ => absurd h1 q_) (fun _ q_ => absurd h1 q_) (fun _ q_ => absurd h1 q_) (fun _ _ => PM.at rfl h9 hE) (fun q_ => absurd q_ h0)
  obtain ⟨s, hs, rfl, e2⟩ := rgm1 (n := 2) (by decide) h1
  have hag : agM (σ.2.1 36 (nI j).toNatClampNeg) (σ.2.1 37 (nI j).toNatClampNeg) (nI s) i n = nI (kindS (ash a j) (nI s) i n) := by rw [hcl]; exact agM_kind hR hj hA
  have hw := why_of (a := a) (i := i) (n := n) hj hs rfl
  have hk4 := kindS_le (ash a j) (nI s) i n
  by_cases hk0 : kindS (ash a j) (nI s) i n = 0
  · have h00 : (o_why a (nI j) (nI s) i n).1 = 0 := by rw [hw, if_pos hk0]
    obtain ⟨w1, j', so, len, c, p, q, hj', wj, w2, ws, rfl, rfl, w4, w5⟩ := why_0 hA h00
    have hjj : j = j' := (nI_eq (by omega) (by omega)).mp wj
    subst hjj
    have hz0 : agM (σ.2.1 36 (nI j).toNatClampNeg) (σ.2.1 37 (nI j).toNatClampNeg) (nI s) (nI p) (nI q) = 0 := by rw [hag, hk0]; rfl
    refine R_X9_town_0 K (by omega) (fun _ _ => hin) (fun _ _ _ => hin) (fun _ _ _ _ _ _ => hin) (fun _ _ _ _ _ _ _ => hin) (fun _ _ _ => hin) (fun _ _ _ _ => hin) (fun _ _ _ _ _ _ _ => hin) (fun _ _ _ _ _ _ _ _ => hin) (fun _ _ _ => ?_) (fun _ _ z_ => absurd hz0 z_) (fun _ q_ => absurd q_ h1) (fun q_ => absurd q_ h0)
    rcases shM_row h9 hj hA with ⟨r1, r2⟩ | ⟨s1, n1, c1, r1, r2, r3, r4, r5, r6, r7⟩
    · rw [show ash (setFl a 0) j = ash a j from rfl, w2] at r1
      cases r1
    rw [show ash (setFl a 0) j = ash a j from rfl, w2] at r1
    cases r1
    have ho := o_town_at h00 w2 hj (show p < 2 ^ 31 by omega) (show q < 2 ^ 31 by omega)
    rw [show (80 : Int32) * nI j + nI p = nI (80 * j + p) by rw [show (80 : Int32) = nI 80 from rfl, pk_mul, nI_add], nI_add]
    have hEb : Eqx [2253] [] (pS σ 2240 0) (pS (pS σ 2240 0) 2253 (nI (80 * j + p))) := Eqx.rf.pS (by simp) _
    refine C_X9_town_67 K (by omega) (m_readTown (b := 80 * j + p) (g := fun q => c (p + q)) hWf (by omega) (by omega) rfl (fun r hr => by rw [Nat.add_assoc]; exact r6 _ (by omega))) (fun v σ' hp => ?_)
    rcases hp with ⟨rfl, r, f1, f2, f3⟩ | ⟨rfl, f1, f2, f3, f4, f5⟩
    · have hE' : Eqx [2253, 2254, 2255] [42, 43] (pS σ 2240 0) σ' := (hEb.mono (by simp) (by simp)).tr f3
      rw [f1] at ho
      rw [ho] at K
      refine R_X9_town_70 K (fun z_ => absurd rfl z_) (fun _ => ?_)
      have hr := ff_le f1
      rw [f2, pk_sub (by omega), show 80 * j + p + r - (80 * j + p) = r by omega]
      exact PM.at rfl (h9.keep hE' (by decide) (by decide)) (hE.tr (EM.of hE' (by decide) (by decide)))
    · have hE' : Eqx [2253, 2254, 2255] [42, 43] (pS σ 2240 0) σ' := (hEb.mono (by simp) (by simp)).tr f5
      rw [f1] at ho
      rw [ho] at K
      obtain ⟨m, np, m1, m2, m3, m4, m5, m6, m7, m8, m9⟩ := ff_none f1
      rw [m4, m5] at f2 f4
      rw [m4] at f3
      have f3 : σ'.1 2255 = nI m := f3
      refine R_X9_town_70 K (fun _ => ?_) (fun z_ => absurd z_ (by decide))
      rw [f2, f3]
      have hE1 : Eqx [2245, 2246] [] σ' (pS (pS σ' 2245 (nI np)) 2246 (nI m)) := (Eqx.rf.pS (by simp) _).pS (by simp) _
      refine townM_copy (σ := pS (pS σ' 2245 (nI np)) 2246 (nI m)) m7 rfl K (fun σ2 hE2 hy => ?_) np 0 _ (by omega) Eqx.rf (fun y hy => absurd hy (by omega))
      have e46 : σ2.1 2246 = nI m := hE2.1 2246 (by decide)
      rw [e46]
      have hE3 : Eqx [2249, 2250, 2251] [] σ2 (pS (pS (pS σ2 2249 0) 2250 0) 2251 (nI m)) := ((Eqx.rf.pS (by simp) _).pS (by simp) _).pS (by simp) _
      refine townM_ag (σ := pS (pS (pS σ2 2249 0) 2250 0) 2251 (nI m)) m2 e46 K (fun σ3 hE4 h41 => ?_) m 0 _ (by omega) Eqx.rf (fun r hr => absurd hr (by omega))
      have hEa : Eqx [2245, 2246, 2249, 2250, 2251, 2253, 2254, 2255] [39, 40, 41, 42, 43] (pS σ 2240 0) σ3 := (((hE'.mono (by simp) (by simp)).tr (hE1.mono (by simp) (by simp))).tr (hE2.mono (by simp) (by simp))).tr ((hE3.mono (by simp) (by simp)).tr (hE4.mono (by simp) (by simp)))
      have e45 : σ3.1 2245 = nI np := (hE4.1 2245 (by decide)).trans (hE2.1 2245 (by decide))
      have hT : TM (newT (fun q => c (p + q)) q) σ3 := by
        unfold newT
        rw [m4, m5]
        refine ⟨e45, (hE4.1 2246 (by decide)).trans e46, hE4.1 2249 (by decide), hE4.1 2250 (by decide), hE4.1 2251 (by decide), fun y hy2 => ?_, fun y hy2 => ?_, h41⟩
        · rw [hE4.2.1 39 (by decide)]
          exact (hy y hy2).1.trans (f4 y hy2).1
        · rw [hE4.2.1 40 (by decide)]
          exact (hy y hy2).2.trans (f4 y hy2).2
      refine PM.at ?_ (h9.town hT hEa (by decide) (by decide)) (hE.tr (EM.of hEa (by decide) (by decide)))
      show σ3.1 2245 = nI ((q - 2) / wS (fun q => c (p + q)))
      rw [e45, m4, m5]
  · have hz0 : ¬ agM (σ.2.1 36 (nI j).toNatClampNeg) (σ.2.1 37 (nI j).toNatClampNeg) (nI s) i n = 0 := by
      rw [hag]
      exact fun z_ => hk0 ((nI_eq (b := 0) (by omega) (by decide)).mp z_)
    rw [if_neg hk0] at hw
    have ho : o_town a (nI j) (nI s) i n = (-10 - nI (kindS (ash a j) (nI s) i n), setFl a (nI (kindS (ash a j) (nI s) i n))) := by
      unfold o_town
      rw [hw]
      exact if_neg (neg10 hk4)
    rw [ho] at K
    refine R_X9_town_0 K (by omega) (fun _ _ => hin) (fun _ _ _ => hin) (fun _ _ _ _ _ _ => hin) (fun _ _ _ _ _ _ _ => hin) (fun _ _ _ => hin) (fun _ _ _ _ => hin) (fun _ _ _ _ _ _ _ => hin) (fun _ _ _ _ _ _ _ _ => hin) (fun _ _ z_ => absurd z_ hz0) (fun _ _ z_ => ?_) (fun _ q_ => absurd q_ h1) (fun q_ => absurd q_ h0)
    show PM _ _ σ (some (.int (-10 - agM (σ.2.1 36 (nI j).toNatClampNeg) (σ.2.1 37 (nI j).toNatClampNeg) (nI s) i n))) (pS (pS σ 2240 0) 2240 (agM (σ.2.1 36 (nI j).toNatClampNeg) (σ.2.1 37 (nI j).toNatClampNeg) (nI s) i n))
    rw [hag, hov]
    exact PM.at rfl (hR.fl _) (EM.rf.s (by decide) _)
end TOWN4
