/-! ===== sway: the class's call; the model counts lies ===== -/
section SWAY6
variable {ω : WT} {l : Launch} {d : Nat} {a : Ab} {σ : St}
theorem swF_C {np : Nat} {x : Int32} (hnp : np ≤ 8) (h1 : ¬ F_bc x < 1) (h2 : ¬ 3 < F_bc x) (h3 : x &&& (nI (2 ^ np - 1) ^^^ -1) = 0) : ∃ F, swF np x = some F := by
  have hF := (low_and hnp).mp h3
  have hp8 := p2_le8 hnp
  refine ⟨x.toBitVec.toNat, ?_⟩
  have e : F_bc x = nI (cb x.toBitVec.toNat 8) := by
    rw [← F_bc_n _ (by omega), ← nI_self]
  have hb := cb_le x.toBitVec.toNat 8
  rw [e] at h1 h2
  have q1 : ¬ cb x.toBitVec.toNat 8 < 1 := fun z => h1 ((nI_ltI (b := 1) (by omega) (by omega)).mpr z)
  have q2 : ¬ 3 < cb x.toBitVec.toNat 8 := fun z => h2 ((nI_ltI (a := 3) (by omega) (by omega)).mpr z)
  unfold swF
  rw [if_pos ⟨hF, by omega, by omega⟩]
theorem c_sway {x w : Int32} (hWf : Wf ω) (hd : 6 ≤ d) (hA : AO a) (hR : RC a σ) : Sp ω l yX8_sway cX8_sway 4 (some .int) d [.ref (ω.2.2.1 0), .int x, .int w] σ (PC (o_sway a x w) a σ) := by
  refine Sp.of (by decide) (Nat.le_of_ble_eq_true rfl) hWf (fun κ K => ?_)
  have hnp := hA.1.1
  have hp8 := p2_le8 hnp
  cases hs : swF (tnp (att a)) x with
  | none =>
    have ho : o_sway a x w = -2 := by simp only [o_sway, hs]
    rw [ho] at K
    have K2 := R_X8_sway_0 (σ := σ) (x1 := x) (x2 := w) K (by omega)
    rw [hR.1.1, nI_all hnp] at K2
    have no : ¬ F_bc x < 1 → ¬ 3 < F_bc x → x &&& (nI (2 ^ tnp (att a) - 1) ^^^ -1) = 0 → False := fun h1 h2 h3 => by
      obtain ⟨F, h⟩ := swF_C hnp h1 h2 h3
      rw [hs] at h
      cases h
    exact K2 (fun _ => PC.at rfl hR EC.rf) (fun _ _ => PC.at rfl hR EC.rf) (fun h1 h2 h3 => (no h1 h2 h3).elim) (fun h1 h2 h3 => (no h1 h2 h3).elim) (fun h1 h2 h3 => (no h1 h2 h3).elim) (fun h1 h2 h3 => (no h1 h2 h3).elim) (fun h1 h2 h3 => (no h1 h2 h3).elim) (fun _ _ _ => PC.at rfl hR EC.rf)
  | some F =>
    obtain ⟨rfl, hF, c1, c3⟩ := swF_some hs
    have K2 := R_X8_sway_0 (σ := σ) (x1 := nI F) (x2 := w) K (by omega)
    rw [hR.1.1, nI_all hnp, F_bc_n F (by omega)] at K2
    have n1 : ¬ nI (cb F 8) < 1 := fun z => absurd ((nI_ltI (b := 1) (by omega) (by omega)).mp z) (by omega)
    have n3 : ¬ 3 < nI (cb F 8) := fun z => absurd ((nI_ltI (a := 3) (by omega) (by omega)).mp z) (by omega)
    have h2 : 2 ≤ tnp (att a) := hA.1.two (fun z => by
      rw [z] at hF
      have : F = 0 := by omega
      rw [this] at c1
      exact absurd c1 (by decide))
    have n0 : ¬ (if nI (tnp (att a)) ≤ 0 then (0 : Int32) else 1) = 0 := fun z => absurd (tw0 (by omega) z) (by omega)
    have n8 : nI F &&& (nI (2 ^ tnp (att a) - 1) ^^^ -1) = 0 := by
      have := nI_andnot (b := 2 ^ tnp (att a) - 1) hF
      refine (low_and hnp).mpr ?_
      have e : (nI F).toBitVec.toNat = F := by
        show F % 2 ^ 32 = F
        omega
      rw [e]
      exact hF
    have go : ∀ j, j < 2 → w = nI j → V ω κ 70 [] [.int w, .int (nI F), .ref (ω.2.2.1 23)] (pS (pS σ 897 (σ.1 642)) 898 (σ.1 643)) := by
      intro j hj hw
      subst hw
      have ho : o_sway a (nI F) (nI j) = Classical.epsilon (Lst (-9) (FinF (att a) F (nI j) (tit (att a) - 1) 0 (op (att a)) 0)) := by
        simp only [o_sway, hs, ix_n hj (by omega : 2 < 2 ^ 31)]
      rw [ho] at K
      rw [hR.1.2.2.1, hR.1.2.2.2.1]
      have hE1 : Eqx [897, 898] [] σ (pS (pS σ 897 (nI (tme (att a)))) 898 (nI (tla (att a)))) := (Eqx.rf.pS (by simp) _).pS (by simp) _
      refine C_X8_sway_70 K (by omega) (m_fewestSayings hWf (by omega) (hR.1.keep hE1 (by decide) (by decide)) hA.1 h2 rfl rfl (by omega) c3) (fun v σ' hp => ?_)
      obtain ⟨r, rfl, hL, hE⟩ := hp
      refine R_X8_sway_73 K ?_
      have er : r = Classical.epsilon (Lst (-9) (FinF (att a) F (nI j) (tit (att a) - 1) 0 (op (att a)) 0)) := hL.uni (Classical.epsilon_spec ⟨r, hL⟩)
      have hE2 : Eqx [897, 898, 899, 900, 901] [24, 25, 26, 27] σ σ' := (hE1.mono (by simp) (by simp)).tr (hE.mono (by simp) (by simp))
      rw [er]
      exact PC.at rfl (hR.keep hE2 (by decide) (by decide)) (EC.of hE2 (by decide) (by decide))
    refine K2 (fun z_ => absurd z_ n1) (fun _ z_ => absurd z_ n3) (fun _ _ _ hw _ => go 1 (by omega) hw) (fun _ _ _ _ z_ => absurd z_ n0) (fun _ _ _ _ hw _ => go 0 (by omega) hw) (fun _ _ _ _ _ z_ => absurd z_ n0) (fun _ _ _ h1 h0 => ?_) (fun _ _ z_ => absurd n8 z_)
    have hi : ix w 2 = none := by
      rcases ix_cases w 2 (by omega) with h | ⟨j, hj, rfl, -⟩
      · exact h.1
      · have : j = 0 ∨ j = 1 := by omega
        rcases this with rfl | rfl
        · exact absurd rfl h0
        · exact absurd rfl h1
    have ho : o_sway a (nI F) w = -2 := by simp only [o_sway, hs, hi]
    rw [ho]
    exact PC.at rfl hR EC.rf
def gT (t : Tn) (mt of to : Nat) : Nat := bs (fun x => of.testBit x && (to.testBit x ^^ tws t x mt)) (tnp t)
theorem m_lies {t : Tn} {mt of to : Nat} (hWf : Wf ω) (hT : TM t σ) (hO : TO t) (hmt : mt < tnm t) (hof : of < 256) (hto : to < 256) : Sp ω l yX9_lies cX9_lies 6 (some .int) d [.ref (ω.2.2.1 35), .int (nI mt), .int (nI of), .int (nI to)] σ (rI (nI (cb (gT t mt of to) 8)) σ) := by
  refine Sp.of (by decide) (Nat.le_of_ble_eq_true rfl) hWf (fun κ K => R_X9_lies_0 K ?_)
  have hnp := hO.1
  have hnm := hO.2.1
  have hg : gT t mt of to < 2 ^ tnp t := bs_lt _ _
  have e8 : cb (gT t mt of to) 8 = cb (gT t mt of to) (tnp t) := cb8 hg hnp
  rw [e8] at K
  have loop : ∀ j x, x + j = tnp t → V ω κ 6 [(0, .ref (ω.2.2.1 35)), (1, .int (nI mt)), (2, .int (nI of)), (3, .int (nI to)), (4, .int (nI (cb (gT t mt of to) x))), (5, .int (nI x))] [] σ := by
    intro j
    induction j with
    | zero =>
      intro x h
      obtain rfl : x = tnp t := by omega
      have hle : σ.1 2245 ≤ nI (tnp t) := by rw [hT.1]; exact nI_le (Nat.le_refl _) (by omega)
      exact R_X9_lies_6 K (fun _ => ⟨rfl, rfl⟩) (fun z_ => absurd hle z_) (fun z_ => absurd hle z_)
    | succ j ih =>
      intro x h
      have hge : ¬ σ.1 2245 ≤ nI x := by
        rw [hT.1]
        exact fun z => absurd ((nI_leI (by omega) (by omega)).mp z) (by omega)
      have ih2 := ih (x + 1) (by omega)
      have hbw : bs (tws t x) (tnm t) < 2 ^ 31 := Nat.lt_of_lt_of_le (bs_lt _ _) (Nat.pow_le_pow_right (by omega) (by omega))
      refine R_X9_lies_6 K (fun z_ => absurd z_ hge) (fun _ _ => vp_in_nI (by omega) (by omega)) (fun _ => ?_)
      rw [nI_clamp (by omega), hT.2.2.2.2.2.2.1 x (by omega), nI_bit hbw (by omega), nI_bit (n := to) (by omega) (by omega), nI_bit (n := of) (by omega) (by omega), bs_bit, nI_1]
      have e : nI (cb (gT t mt of to) x) + (if nI (if of.testBit x = true then 1 else 0) = 1 then (if nI (if to.testBit x = true then 1 else 0) = nI (if (decide (mt < tnm t) && tws t x mt) = true then 1 else 0) then (0 : Int32) else 1) else 0) = nI (cb (gT t mt of to) (x + 1)) := by
        have eg : (gT t mt of to).testBit x = (of.testBit x && (to.testBit x ^^ tws t x mt)) := by
          unfold gT
          rw [bs_bit]
          simp [show x < tnp t by omega]
        rw [cb, eg]
        have z0 : ∀ n, nI n + 0 = nI n := fun n => by rw [show (0 : Int32) = nI 0 from rfl, nI_add, Nat.add_zero]
        have n01 : ¬ nI 0 = (1 : Int32) := by decide
        have n01' : ¬ nI 0 = nI 1 := by decide
        have n10' : ¬ nI 1 = nI 0 := by decide
        have y1 : nI 1 = (1 : Int32) := rfl
        have n10 : ¬ (1 : Int32) = nI 0 := by decide
        cases h1 : of.testBit x <;> cases h2 : to.testBit x <;> cases h3 : tws t x mt <;> simp [hmt, n01, n01', n10', y1, z0, nI_1, n10]
      rw [e]
      exact ih2
  exact loop (tnp t) 0 (by omega)
end SWAY6
