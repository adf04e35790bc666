/-! ===== sheets: copy ===== -/
section SHEETS3
variable {ω : WT} {l : Launch} {d : Nat} {a : Ab} {σ : St}
def o_copy (a : Ab) (k i o j n : Int32) : Int32 × Ab := match ix k 4 with
  | none => (-1, setFl a 0)
  | some kk => match ix o 4 with
    | none => (-1, setFl a 0)
    | some oo => match ash a kk with
      | none => (-11, setFl a 1)
      | some (s1, n1, c1) => match ash a oo with
        | none => (-11, setFl a 1)
        | some (s2, n2, c2) => if s1 ≠ s2 then (-12, setFl a 2) else if hasC i n n1 = 0 ∨ hasC j n n2 = 0 then (-13, setFl a 3) else (n, setSh (setFl a 0) oo (some (s2, n2, va_cpy c1 c2 i.toNatClampNeg j.toNatClampNeg n.toNatClampNeg)))
theorem a_copy {k i o j n : Int32} (hA : AO a) : AO (o_copy a k i o j n).2 := by
  cases e0 : ix k 4 with
  | none => simp only [o_copy, e0]; exact hA
  | some kk =>
    cases e1 : ix o 4 with
    | none => simp only [o_copy, e0, e1]; exact hA
    | some oo =>
      cases e2 : ash a kk with
      | none => simp only [o_copy, e0, e1, e2]; exact hA
      | some r1 =>
        obtain ⟨s1, n1, c1⟩ := r1
        cases e3 : ash a oo with
        | none => simp only [o_copy, e0, e1, e2, e3]; exact hA
        | some r2 =>
          obtain ⟨s2, n2, c2⟩ := r2
          have h3 := hA.2 oo (ix_some e1).1
          rw [e3] at h3
          simp only [o_copy, e0, e1, e2, e3]
          split
          · exact hA
          · split
            · exact hA
            · exact AO.sh (a := setFl a 0) hA h3
theorem c_copy {k i o j n : Int32} (hWf : Wf ω) (hd : 2 ≤ d) (hA : AO a) (hR : RC a σ) : Sp ω l yX8_copy cX8_copy 8 (some .int) d [.ref (ω.2.2.1 0), .int k, .int i, .int o, .int j, .int n] σ (PC (o_copy a k i o j n).1 (o_copy a k i o j n).2 σ) := by
  have h9 := hR.fl 0
  have hE : EC σ (pS σ 9 0) := EC.rf.s (by decide) _
  have hov : ∀ w, pS (pS σ 9 0) 9 w = pS σ 9 w := fun w => pS_over σ 9 0 w
  refine Sp.of (by decide) (Nat.le_of_ble_eq_true rfl) hWf (fun κ K => R_X8_copy_0 K (by omega) (fun h0 => ?_) (fun h0 h1 => ?_) (fun h0 h1 => ?_))
  · simp only [o_copy, rg0 (n := 4) (by decide) h0]
    exact PC.at rfl h9 hE
  · obtain ⟨kk, hkk, rfl, e0⟩ := rg1 (n := 4) (by decide) h0
    obtain ⟨oo, hoo, rfl, e1⟩ := rg1 (n := 4) (by decide) h1
    refine A_X8_copy_26 hkk K (R_X8_copy_27 hkk K (A_X8_copy_34 hkk hoo K ?_))
    rcases shC_row h9 hkk hA with ⟨r1, r2⟩ | ⟨s1, n1, c1, r1, r2, r3, r4, r5, r6, r7⟩
    · have r1 : ash a kk = none := r1
      simp only [o_copy, e0, e1, r1] at K
      refine R_X8_copy_35 hkk hoo K hd (fun _ => ?_) (fun q_ => absurd r2 q_) (fun q_ => absurd r2 q_) (fun q_ => absurd r2 q_) (fun q_ => absurd r2 q_) (fun q_ => absurd r2 q_) (fun q_ => absurd r2 q_) (fun q_ => absurd r2 q_) (fun q_ => absurd r2 q_) (fun q_ => absurd r2 q_) (fun q_ => absurd r2 q_)
      rw [hov]
      exact PC.at rfl (hR.fl 1) (EC.rf.s (by decide) _)
    · have r1 : ash a kk = some (s1, n1, c1) := r1
      rcases shC_row h9 hoo hA with ⟨t1, t2⟩ | ⟨s2, n2, c2, t1, t2, t3, t4, t5, t6, t7⟩
      · have t1 : ash a oo = none := t1
        simp only [o_copy, e0, e1, r1, t1] at K
        refine R_X8_copy_35 hkk hoo K hd (fun q_ => absurd q_ r7) (fun _ q_ => absurd t2 q_) (fun _ q_ => absurd t2 q_) (fun _ q_ => absurd t2 q_) (fun _ q_ => absurd t2 q_) (fun _ q_ => absurd t2 q_) (fun _ q_ => absurd t2 q_) (fun _ q_ => absurd t2 q_) (fun _ q_ => absurd t2 q_) (fun _ q_ => absurd t2 q_) (fun _ _ => ?_)
        rw [hov]
        exact PC.at rfl (hR.fl 1) (EC.rf.s (by decide) _)
      · have t1 : ash a oo = some (s2, n2, c2) := t1
        by_cases hs : s1 = s2
        · have hss : (pS σ 9 0).1 (64 * (2 + kk) + 2) = (pS σ 9 0).1 (64 * (2 + oo) + 2) := by rw [r5, t5, hs]
          by_cases g1 : hasC i n n1 = 0
          · have ho : o_copy a (nI kk) i (nI oo) j n = (-13, setFl a 3) := by simp only [o_copy, e0, e1, r1, t1]; rw [if_neg (by simp [hs]), if_pos (Or.inl g1)]
            rw [ho] at K
            have g1' : (if i < 0 then (0 : Int32) else (if (pS σ 9 0).1 (64 * (2 + kk) + 1) < i then 0 else (if n < 0 then 0 else (if (pS σ 9 0).1 (64 * (2 + kk) + 1) - i < n then 0 else 1)))) = 0 := by rw [r4]; exact g1
            refine R_X8_copy_35 hkk hoo K hd (fun q_ => absurd q_ r7) (fun _ _ _ _ => ?_) (fun _ _ _ q_ => absurd g1' q_) (fun _ _ _ q_ => absurd g1' q_) (fun _ _ _ q_ => absurd g1' q_) (fun _ _ _ q_ => absurd g1' q_) (fun _ _ _ q_ => absurd g1' q_) (fun _ _ _ q_ => absurd g1' q_) (fun _ _ _ q_ => absurd g1' q_) (fun _ _ q_ => absurd hss q_) (fun _ q_ => absurd q_ t7)
            rw [hov]
            exact PC.at rfl (hR.fl 3) (EC.rf.s (by decide) _)
          · have g1' : ¬ (if i < 0 then (0 : Int32) else (if (pS σ 9 0).1 (64 * (2 + kk) + 1) < i then 0 else (if n < 0 then 0 else (if (pS σ 9 0).1 (64 * (2 + kk) + 1) - i < n then 0 else 1)))) = 0 := by rw [r4]; exact g1
            by_cases g2 : hasC j n n2 = 0
            · have ho : o_copy a (nI kk) i (nI oo) j n = (-13, setFl a 3) := by simp only [o_copy, e0, e1, r1, t1]; rw [if_neg (by simp [hs]), if_pos (Or.inr g2)]
              rw [ho] at K
              have g2' : (if j < 0 then (0 : Int32) else (if (pS σ 9 0).1 (64 * (2 + oo) + 1) < j then 0 else (if n < 0 then 0 else (if (pS σ 9 0).1 (64 * (2 + oo) + 1) - j < n then 0 else 1)))) = 0 := by rw [t4]; exact g2
              refine R_X8_copy_35 hkk hoo K hd (fun q_ => absurd q_ r7) (fun _ _ _ q_ => absurd q_ g1') (fun _ _ _ _ q_ => absurd g2' q_) (fun _ _ _ _ q_ => absurd g2' q_) (fun _ _ _ _ q_ => absurd g2' q_) (fun _ _ _ _ q_ => absurd g2' q_) (fun _ _ _ _ q_ => absurd g2' q_) (fun _ _ _ _ q_ => absurd g2' q_) (fun _ _ _ _ _ => ?_) (fun _ _ q_ => absurd hss q_) (fun _ q_ => absurd q_ t7)
              rw [hov]
              exact PC.at rfl (hR.fl 3) (EC.rf.s (by decide) _)
            · have g2' : ¬ (if j < 0 then (0 : Int32) else (if (pS σ 9 0).1 (64 * (2 + oo) + 1) < j then 0 else (if n < 0 then 0 else (if (pS σ 9 0).1 (64 * (2 + oo) + 1) - j < n then 0 else 1)))) = 0 := by rw [t4]; exact g2
              obtain ⟨ii, nn, rfl, rfl, f1⟩ := hasC_1 r3 g1
              obtain ⟨jj, n3, rfl, fn, f2⟩ := hasC_1 t3 g2
              have fn : nn = n3 := (nI_eq (by omega) (by omega)).mp fn
              subst fn
              have ci : (nI ii).toNatClampNeg = ii := nI_clamp (by omega)
              have cj : (nI jj).toNatClampNeg = jj := nI_clamp (by omega)
              have cn : (nI nn).toNatClampNeg = nn := nI_clamp (by omega)
              have ho : o_copy a (nI kk) (nI ii) (nI oo) (nI jj) (nI nn) = (nI nn, setSh (setFl a 0) oo (some (s2, n2, va_cpy c1 c2 ii jj nn))) := by
                simp only [o_copy, e0, e1, r1, t1]
                rw [if_neg (by simp [hs]), if_neg (fun z_ => z_.elim g1 g2), ci, cj, cn]
              rw [ho] at K
              refine R_X8_copy_35 hkk hoo K hd (fun q_ => absurd q_ r7) (fun _ _ _ q_ => absurd q_ g1') (fun _ _ _ _ _ => nI_pos (by omega)) (fun _ _ _ _ _ => nI_pos (by omega)) (fun _ _ _ _ _ => nI_pos (by omega)) (fun _ _ _ _ _ => by rw [ci, cn]; omega) (fun _ _ _ _ _ => by rw [cj, cn]; omega) (fun _ _ _ _ _ => ?_) (fun _ _ _ _ q_ => absurd q_ g2') (fun _ _ q_ => absurd hss q_) (fun _ q_ => absurd q_ t7)
              rw [ci, cj, cn]
              have hE2 : Eqx [64 * (2 + oo) + 1, 64 * (2 + oo) + 2] [6 + oo] (pS σ 9 0) (pF (pS σ 9 0) (6 + oo) (va_cpy ((pS σ 9 0).2.1 (6 + kk)) ((pS σ 9 0).2.1 (6 + oo)) ii jj nn)) := Eqx.rf.pF (by simp) _
              refine PC.at rfl (h9.sh (s := some (s2, n2, va_cpy c1 c2 ii jj nn)) hoo ⟨t4, t5, fun p_ hp_ => ?_⟩ hE2) (hE.tr (EC.of hE2 (by simp; omega) (by simp; omega)))
              show (if 6 + oo = 6 + oo then va_cpy _ _ ii jj nn else _) p_ = va_cpy c1 c2 ii jj nn p_
              rw [if_pos rfl]
              by_cases z : jj ≤ p_ ∧ p_ < jj + nn
              · rw [pk_cpy_in z.1 z.2, pk_cpy_in z.1 z.2]
                exact r6 _ (by omega)
              · rw [pk_cpy_out (by omega), pk_cpy_out (by omega)]
                exact t6 _ hp_
        · have hss : ¬ (pS σ 9 0).1 (64 * (2 + kk) + 2) = (pS σ 9 0).1 (64 * (2 + oo) + 2) := by
            rw [r5, t5]
            exact fun z_ => hs ((nI_eq (by omega) (by omega)).mp z_)
          have ho : o_copy a (nI kk) i (nI oo) j n = (-12, setFl a 2) := by simp only [o_copy, e0, e1, r1, t1]; rw [if_pos hs]
          rw [ho] at K
          refine R_X8_copy_35 hkk hoo K hd (fun q_ => absurd q_ r7) (fun _ _ q_ => absurd q_ hss) (fun _ _ q_ => absurd q_ hss) (fun _ _ q_ => absurd q_ hss) (fun _ _ q_ => absurd q_ hss) (fun _ _ q_ => absurd q_ hss) (fun _ _ q_ => absurd q_ hss) (fun _ _ q_ => absurd q_ hss) (fun _ _ q_ => absurd q_ hss) (fun _ _ _ => ?_) (fun _ q_ => absurd q_ t7)
          rw [hov]
          exact PC.at rfl (hR.fl 2) (EC.rf.s (by decide) _)
  · obtain ⟨kk, hkk, rfl, e0⟩ := rg1 (n := 4) (by decide) h0
    simp only [o_copy, e0, rg0 (n := 4) (by decide) h1]
    exact PC.at rfl h9 hE
/-- the model's copying, place by place -/
theorem copyM_loop {κ : KT} {kk ii oo jj nn : Nat} {fwd : Bool} {post : Option Value → St → Prop} (hkk : kk < 4) (hoo : oo < 4) (hi : ii + nn ≤ 80) (hj : jj + nn ≤ 80) (hf : fwd = decide (ii < jj)) (K : Cm ω κ l yX9_copy cX9_copy 10 d (some .int) post)
    (fin : ∀ σ', Eqx [] [38] σ σ' → (∀ p, σ'.2.1 38 p = if 80 * oo + jj ≤ p ∧ p < 80 * oo + jj + nn then σ.2.1 38 (80 * kk + ii + (p - (80 * oo + jj))) else σ.2.1 38 p) → post (some (.int (nI nn))) σ') :
    ∀ m c σq, c + m = nn → Eqx [] [38] σ σq → (∀ p, σq.2.1 38 p = if (80 * oo + jj ≤ p ∧ p < 80 * oo + jj + nn) ∧ (if fwd then nn - c ≤ p - (80 * oo + jj) else p - (80 * oo + jj) < c) then σ.2.1 38 (80 * kk + ii + (p - (80 * oo + jj))) else σ.2.1 38 p) →
      V ω κ 166 [(0, .ref (ω.2.2.1 35)), (1, .int (nI kk)), (2, .int (nI ii)), (3, .int (nI oo)), (4, .int (nI jj)), (5, .int (nI nn)), (7, .int (if fwd then 1 else 0)), (8, .int (nI c))] [] σq
  | 0, c, σq, h, hE, h1 => by
    obtain rfl : c = nn := by omega
    have hle : nI c ≤ nI c := nI_le (Nat.le_refl _) (by omega)
    refine R_X9_copy_166 K (fun _ => fin σq hE (fun p => ?_)) (fun q_ => absurd hle q_) (fun q_ => absurd hle q_) (fun q_ => absurd hle q_)
    rw [h1 p]
    by_cases z : 80 * oo + jj ≤ p ∧ p < 80 * oo + jj + c
    · rw [if_pos z, if_pos]
      refine ⟨z, ?_⟩
      cases fwd
      · rw [if_neg (by decide)]; omega
      · rw [if_pos rfl]; omega
    · rw [if_neg z, if_neg (fun q_ => z q_.1)]
  | m + 1, c, σq, h, hE, h1 => by
    have e1 : (80 : Int32) * nI kk + nI ii = nI (80 * kk + ii) := by rw [show (80 : Int32) = nI 80 from rfl, pk_mul, nI_add]
    have e2 : (80 : Int32) * nI oo + nI jj = nI (80 * oo + jj) := by rw [show (80 : Int32) = nI 80 from rfl, pk_mul, nI_add]
    have e3 : (if (if fwd then (1 : Int32) else 0) = 0 then nI c else nI nn - 1 - nI c) = nI (if fwd then nn - 1 - c else c) := by
      cases fwd
      · rfl
      · rw [if_pos rfl, if_neg (by decide), if_pos rfl, show (1 : Int32) = nI 1 from rfl, pk_sub (by omega), pk_sub (by omega)]
    have hx : (if fwd then nn - 1 - c else c) < nn := by split <;> omega
    generalize hxe : (if fwd then nn - 1 - c else c) = x_ at *
    refine R_X9_copy_166 K (fun q_ => absurd ((nI_leI (by omega) (by omega)).mp q_) (by omega)) (fun _ => ?_) (fun _ => ?_) (fun _ => ?_)
    · rw [e3, e1, nI_add]; exact vp_in_nI (by omega) (by omega)
    · rw [e3, e2, nI_add]; exact vp_in_nI (by omega) (by omega)
    · rw [e3, e1, e2, nI_add, nI_add, nI_1, nI_clamp (by omega), nI_clamp (by omega)]
      refine copyM_loop hkk hoo hi hj hf K fin m (c + 1) _ (by omega) (hE.pA (by simp) _ _) (fun p => ?_)
      have hsrc : σq.2.1 38 (80 * kk + ii + x_) = σ.2.1 38 (80 * kk + ii + x_) := by
        rw [h1]
        refine if_neg (fun q_ => ?_)
        obtain ⟨⟨q1_, q2_⟩, q3_⟩ := q_
        have hko : kk = oo := by omega
        subst hko
        cases fwd
        · rw [if_neg (by decide)] at q3_ hxe
          have : ¬ ii < jj := of_decide_eq_false hf.symm
          omega
        · rw [if_pos rfl] at q3_ hxe
          have : ii < jj := of_decide_eq_true hf.symm
          omega
      show upd (σq.2.1 38) (80 * oo + jj + x_) _ p = _
      by_cases z : p = 80 * oo + jj + x_
      · rw [z, pk_us, hsrc, if_pos]
        · rw [show 80 * oo + jj + x_ - (80 * oo + jj) = x_ by omega]
        · refine ⟨by omega, ?_⟩
          cases fwd
          · rw [if_neg (by decide)] at hxe ⊢; omega
          · rw [if_pos rfl] at hxe ⊢; omega
      · rw [pk_un z, h1 p]
        by_cases z2 : (80 * oo + jj ≤ p ∧ p < 80 * oo + jj + nn)
        · cases fwd
          · simp only [if_neg (show ¬ false = true by decide)] at hxe ⊢
            by_cases z3 : p - (80 * oo + jj) < c
            · rw [if_pos ⟨z2, z3⟩, if_pos ⟨z2, by omega⟩]
            · rw [if_neg (fun q_ => z3 q_.2), if_neg (fun q_ => by have := q_.2; omega)]
          · simp only [if_true] at hxe ⊢
            by_cases z3 : nn - c ≤ p - (80 * oo + jj)
            · rw [if_pos ⟨z2, z3⟩, if_pos ⟨z2, by omega⟩]
            · rw [if_neg (fun q_ => z3 q_.2), if_neg (fun q_ => by have := q_.2; omega)]
        · rw [if_neg (fun q_ => z2 q_.1), if_neg (fun q_ => z2 q_.1)]
end SHEETS3
