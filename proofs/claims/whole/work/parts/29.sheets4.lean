/-! ===== sheets: copy, the model's side ===== -/
section SHEETS4
variable {ω : WT} {l : Launch} {d : Nat} {a : Ab} {σ : St}
theorem hasC_5 {i j n : Int32} {n1 n2 : Nat} (h : (if i < 0 then (0 : Int32) else (if j < 0 then 0 else (if n < 0 then 0 else (if nI n1 < i then 0 else (if nI n2 < j then 0 else 1))))) = 0) : hasC i n n1 = 0 ∨ hasC j n n2 = 0 := by
  unfold hasC
  by_cases a1 : i < 0
  · exact Or.inl (if_pos a1)
  by_cases a2 : j < 0
  · exact Or.inr (if_pos a2)
  by_cases a3 : n < 0
  · left
    rw [if_neg a1, if_pos a3]
    split <;> rfl
  by_cases a4 : nI n1 < i
  · left
    rw [if_neg a1, if_pos a4]
  by_cases a5 : nI n2 < j
  · right
    rw [if_neg a2, if_pos a5]
  rw [if_neg a1, if_neg a2, if_neg a3, if_neg a4, if_neg a5] at h
  exact absurd h (by decide)
theorem hasC_last {i n : Int32} {n1 : Nat} (h : nI n1 - i < n) : hasC i n n1 = 0 := by
  unfold hasC
  split
  · rfl
  · split
    · rfl
    · split
      · rfl
      · first | rfl | rw [if_pos h]
theorem hasC_6 {i j n : Int32} {n1 n2 : Nat} (h : ¬ (if i < 0 then (0 : Int32) else (if j < 0 then 0 else (if n < 0 then 0 else (if nI n1 < i then 0 else (if nI n2 < j then 0 else 1))))) = 0) (h1 : ¬ nI n1 - i < n) (h2 : ¬ nI n2 - j < n) : ¬ hasC i n n1 = 0 ∧ ¬ hasC j n n2 = 0 := by
  unfold hasC
  by_cases a1 : i < 0
  · rw [if_pos a1] at h; exact absurd rfl h
  rw [if_neg a1] at h
  by_cases a2 : j < 0
  · rw [if_pos a2] at h; exact absurd rfl h
  rw [if_neg a2] at h
  by_cases a3 : n < 0
  · rw [if_pos a3] at h; exact absurd rfl h
  rw [if_neg a3] at h
  by_cases a4 : nI n1 < i
  · rw [if_pos a4] at h; exact absurd rfl h
  rw [if_neg a4] at h
  by_cases a5 : nI n2 < j
  · rw [if_pos a5] at h; exact absurd rfl h
  rw [if_neg a1, if_neg a4, if_neg a3, if_neg h1, if_neg a2, if_neg a5, if_neg a3, if_neg h2]
  exact ⟨by decide, by decide⟩
theorem d_copy {k i o j n : Int32} (hWf : Wf ω) (hd : 2 ≤ d) (hA : AO a) (hR : RM a σ) : Sp ω l yX9_copy cX9_copy 10 (some .int) d [.ref (ω.2.2.1 35), .int k, .int i, .int o, .int j, .int n] σ (PM (o_copy a k i o j n).1 (o_copy a k i o j n).2 σ) := by
  have h9 := hR.fl 0
  have hE : EM σ (pS σ 2240 0) := EM.rf.s (by decide) _
  have hov : ∀ w, pS (pS σ 2240 0) 2240 w = pS σ 2240 w := fun w => pS_over σ 2240 0 w
  refine Sp.of (by decide) (Nat.le_of_ble_eq_true rfl) hWf (fun κ K => ?_)
  by_cases h0 : (if k < 0 then (0 : Int32) else (if 3 < k then 0 else 1)) = 0
  · have ho : o_copy a k i o j n = (-1, setFl a 0) := by simp only [o_copy, rgm0 (n := 3) (by decide) h0]
    rw [ho] at K
    exact R_X9_copy_0 K hd (fun _ => PM.at rfl h9 hE) (fun q_ => absurd h0 q_) (fun q_ => absurd h0 q_) (fun q_ => absurd h0 q_) (fun q_ => absurd h0 q_) (fun q_ => absurd h0 q_) (fun q_ => absurd h0 q_) (fun q_ => absurd h0 q_) (fun q_ => absurd h0 q_) (fun q_ => absurd h0 q_) (fun q_ => absurd h0 q_) (fun q_ => absurd h0 q_) (fun q_ => absurd h0 q_) (fun q_ => absurd h0 q_) (fun q_ => absurd h0 q_) (fun q_ => absurd h0 q_) (fun q_ => absurd h0 q_)
  obtain ⟨kk, hkk, rfl, e0⟩ := rgm1 (n := 3) (by decide) h0
  have hkk : kk < 4 := by omega
  have hik : vp_in (nI kk) 4 := vp_in_nI (by omega) (by omega)
  have hck : (nI kk).toNatClampNeg = kk := nI_clamp (by omega)
  by_cases h1 : (if o < 0 then (0 : Int32) else (if 3 < o then 0 else 1)) = 0
  · have ho : o_copy a (nI kk) i o j n = (-1, setFl a 0) := by simp only [o_copy, e0, rgm0 (n := 3) (by decide) h1]
    rw [ho] at K
    exact R_X9_copy_0 K hd (fun q_ => absurd q_ h0) (fun _ q_ => absurd h1 q_) (fun _ q_ => absurd h1 q_) (fun _ q_ => absurd h1 q_) (fun _ q_ => absurd h1 q_) (fun _ q_ => absurd h1 q_) (fun _ q_ => absurd h1 q_) (fun _ q_ => absurd h1 q_) (fun _ q_ => absurd h1 q_) (fun _ q_ => absurd h1 q_) (fun _ q_ => absurd h1 q_) (fun _ q_ => absurd h1 q_) (fun _ q_ => absurd h1 q_) (fun _ q_ => absurd h1 q_) (fun _ q_ => absurd h1 q_) (fun _ q_ => absurd h1 q_) (fun _ _ => PM.at rfl h9 hE)
  obtain ⟨oo, hoo, rfl, e1⟩ := rgm1 (n := 3) (by decide) h1
  have hoo : oo < 4 := by omega
  have hio : vp_in (nI oo) 4 := vp_in_nI (by omega) (by omega)
  have hco : (nI oo).toNatClampNeg = oo := nI_clamp (by omega)
  rcases shM_row hR hkk hA with ⟨r1, r2⟩ | ⟨s1, n1, c1, r1, r2, r3, r4, r5, r6, r7⟩
  · have r2' : σ.2.1 36 (nI kk).toNatClampNeg = -9 := by rw [hck]; exact r2
    have ho : o_copy a (nI kk) i (nI oo) j n = (-11, setFl a 1) := by simp only [o_copy, e0, e1, r1]
    rw [ho] at K
    refine R_X9_copy_0 K hd (fun q_ => absurd q_ h0) (fun _ _ => hik) (fun _ _ _ => ?_) (fun _ _ q_ => absurd r2' q_) (fun _ _ q_ => absurd r2' q_) (fun _ _ q_ => absurd r2' q_) (fun _ _ q_ => absurd r2' q_) (fun _ _ q_ => absurd r2' q_) (fun _ _ q_ => absurd r2' q_) (fun _ _ q_ => absurd r2' q_) (fun _ _ q_ => absurd r2' q_) (fun _ _ q_ => absurd r2' q_) (fun _ _ q_ => absurd r2' q_) (fun _ _ q_ => absurd r2' q_) (fun _ _ q_ => absurd r2' q_) (fun _ _ q_ => absurd r2' q_) (fun _ q_ => absurd q_ h1)
    rw [hov]
    exact PM.at rfl (hR.fl 1) (EM.rf.s (by decide) _)
  have r7' : ¬ σ.2.1 36 (nI kk).toNatClampNeg = -9 := by rw [hck]; exact r7
  rcases shM_row hR hoo hA with ⟨t1, t2⟩ | ⟨s2, n2, c2, t1, t2, t3, t4, t5, t6, t7⟩
  · have t2' : σ.2.1 36 (nI oo).toNatClampNeg = -9 := by rw [hco]; exact t2
    have ho : o_copy a (nI kk) i (nI oo) j n = (-11, setFl a 1) := by simp only [o_copy, e0, e1, r1, t1]
    rw [ho] at K
    refine R_X9_copy_0 K hd (fun q_ => absurd q_ h0) (fun _ _ => hik) (fun _ _ q_ => absurd q_ r7') (fun _ _ _ => hio) (fun _ _ _ q_ => absurd t2' q_) (fun _ _ _ q_ => absurd t2' q_) (fun _ _ _ q_ => absurd t2' q_) (fun _ _ _ q_ => absurd t2' q_) (fun _ _ _ q_ => absurd t2' q_) (fun _ _ _ q_ => absurd t2' q_) (fun _ _ _ q_ => absurd t2' q_) (fun _ _ _ q_ => absurd t2' q_) (fun _ _ _ q_ => absurd t2' q_) (fun _ _ _ q_ => absurd t2' q_) (fun _ _ _ q_ => absurd t2' q_) (fun _ _ _ _ => ?_) (fun _ q_ => absurd q_ h1)
    rw [hov]
    exact PM.at rfl (hR.fl 1) (EM.rf.s (by decide) _)
  have t7' : ¬ σ.2.1 36 (nI oo).toNatClampNeg = -9 := by rw [hco]; exact t7
  by_cases hs : s1 = s2
  · have hss : σ.2.1 36 (nI kk).toNatClampNeg = σ.2.1 36 (nI oo).toNatClampNeg := by rw [hck, hco, r4, t4, hs]
    have u1 : σ.2.1 37 (nI kk).toNatClampNeg = nI n1 := by rw [hck]; exact r5
    have u2 : σ.2.1 37 (nI oo).toNatClampNeg = nI n2 := by rw [hco]; exact t5
    have bad : (hasC i n n1 = 0 ∨ hasC j n n2 = 0) → PM (o_copy a (nI kk) i (nI oo) j n).1 (o_copy a (nI kk) i (nI oo) j n).2 σ (some (.int (-10 - 3))) (pS (pS σ 2240 0) 2240 3) := fun z_ => by
      have ho : o_copy a (nI kk) i (nI oo) j n = (-13, setFl a 3) := by simp only [o_copy, e0, e1, r1, t1]; rw [if_neg (by simp [hs]), if_pos z_]
      rw [ho, hov]
      exact PM.at rfl (hR.fl 3) (EM.rf.s (by decide) _)
    refine R_X9_copy_0 K hd (fun q_ => absurd q_ h0) (fun _ _ => hik) (fun _ _ q_ => absurd q_ r7') (fun _ _ _ => hio) (fun _ _ _ _ => hik) (fun _ _ _ _ => hio) (fun _ _ _ _ _ _ _ _ => hik) (fun _ _ _ _ _ _ _ _ _ => hio) (fun _ _ _ _ _ q_ => ?_) (fun _ _ _ _ _ _ => hik) (fun _ _ _ _ _ _ q_ => ?_) (fun _ _ _ _ _ _ _ => hio) (fun _ _ _ _ _ v1 v2 v3 => ?_) (fun _ _ _ _ _ _ _ q_ => ?_) (fun _ _ _ _ q_ => absurd hss q_) (fun _ _ _ q_ => absurd q_ t7') (fun _ q_ => absurd q_ h1)
    · rw [u1, u2] at q_
      exact bad (hasC_5 q_)
    · rw [u1] at q_
      exact bad (Or.inl (hasC_last q_))
    · rw [u1, u2] at v1
      rw [u1] at v2
      rw [u2] at v3
      obtain ⟨g1, g2⟩ := hasC_6 v1 v2 (Int32.not_lt.mpr v3)
      obtain ⟨ii, nn, rfl, rfl, f1⟩ := hasC_1 r3 g1
      obtain ⟨jj, n3, rfl, fn, f2⟩ := hasC_1 t3 g2
      have fn : nn = n3 := (nI_eq (by omega) (by omega)).mp fn
      subst fn
      have ci : (nI ii).toNatClampNeg = ii := nI_clamp (by omega)
      have cj : (nI jj).toNatClampNeg = jj := nI_clamp (by omega)
      have cn : (nI nn).toNatClampNeg = nn := nI_clamp (by omega)
      have ho : o_copy a (nI kk) (nI ii) (nI oo) (nI jj) (nI nn) = (nI nn, setSh (setFl a 0) oo (some (s2, n2, va_cpy c1 c2 ii jj nn))) := by
        simp only [o_copy, e0, e1, r1, t1]
        rw [if_neg (by simp [hs]), if_neg (fun z_ => z_.elim g1 g2), ci, cj, cn]
      rw [ho] at K
      have hw : (if nI jj ≤ nI ii then (0 : Int32) else 1) = (if decide (ii < jj) then 1 else 0) := by
        by_cases z : ii < jj
        · rw [if_neg (fun z_ => by have := (nI_leI (by omega) (by omega)).mp z_; omega), if_pos (decide_eq_true z)]
        · rw [if_pos ((nI_leI (by omega) (by omega)).mpr (by omega)), if_neg (by simpa using z)]
      rw [hw]
      refine copyM_loop (σ := pS σ 2240 0) hkk hoo (by omega) (by omega) rfl K (fun σ' hE2 hp => ?_) nn 0 (pS σ 2240 0) (by omega) Eqx.rf (fun p_ => ?_)
      · have hE3 : Eqx [] [36, 37, 38] (pS σ 2240 0) σ' := hE2.mono (by simp) (by simp)
        refine PM.at rfl (h9.sh (j := oo) (s := some (s2, n2, va_cpy c1 c2 ii jj nn)) ⟨?_, ?_, fun p_ hp_ => ?_⟩ (fun i hi hij => ?_) hE3) (hE.tr (EM.of hE3 (by decide) (by decide)))
        · rw [hE2.2.1 36 (by simp)]; exact t4
        · rw [hE2.2.1 37 (by simp)]; exact t5
        · rw [hp]
          by_cases z : jj ≤ p_ ∧ p_ < jj + nn
          · rw [if_pos (by omega), pk_cpy_in z.1 z.2, show 80 * kk + ii + (80 * oo + p_ - (80 * oo + jj)) = 80 * kk + (ii + (p_ - jj)) by omega]
            exact r6 _ (by omega)
          · rw [if_neg (by omega), pk_cpy_out (by omega)]
            exact t6 _ hp_
        · refine shM_other (j := oo) (hR.2.2.2 i hi) (hA.2 i hi) hij ?_ ?_ (fun q hq => ?_)
          · exact congrFun (hE2.2.1 36 (by simp)) i
          · exact congrFun (hE2.2.1 37 (by simp)) i
          · rw [hp, if_neg (by omega)]; rfl
      · refine (if_neg (fun q_ => ?_)).symm
        obtain ⟨q1_, q2_⟩ := q_
        split at q2_ <;> omega
    · rw [u2] at q_
      exact bad (Or.inr (hasC_last (Int32.not_le.mp q_)))
  · have hss : ¬ σ.2.1 36 (nI kk).toNatClampNeg = σ.2.1 36 (nI oo).toNatClampNeg := by
      rw [hck, hco, r4, t4]
      exact fun z_ => hs ((nI_eq (by omega) (by omega)).mp z_)
    have ho : o_copy a (nI kk) i (nI oo) j n = (-12, setFl a 2) := by simp only [o_copy, e0, e1, r1, t1]; rw [if_pos hs]
    rw [ho] at K
    refine R_X9_copy_0 K hd (fun q_ => absurd q_ h0) (fun _ _ => hik) (fun _ _ q_ => absurd q_ r7') (fun _ _ _ => hio) (fun _ _ _ _ => hik) (fun _ _ _ _ => hio) (fun _ _ _ _ q_ => absurd q_ hss) (fun _ _ _ _ q_ => absurd q_ hss) (fun _ _ _ _ q_ => absurd q_ hss) (fun _ _ _ _ q_ => absurd q_ hss) (fun _ _ _ _ q_ => absurd q_ hss) (fun _ _ _ _ q_ => absurd q_ hss) (fun _ _ _ _ q_ => absurd q_ hss) (fun _ _ _ _ q_ => absurd q_ hss) (fun _ _ _ _ _ => ?_) (fun _ _ _ q_ => absurd q_ t7') (fun _ q_ => absurd q_ h1)
    rw [hov]
    exact PM.at rfl (hR.fl 2) (EM.rf.s (by decide) _)
end SHEETS4
