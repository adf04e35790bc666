/-! ===== safe, the model's side ===== -/
section SAFE2
variable {ω : WT} {l : Launch} {d : Nat} {a : Ab} {σ : St}
abbrev okA (t : Tn) (A : List (List Nat)) (r : Nat) : Bool := A.all (fun p => okP t (r / 3) (r % 3) p (op t))
abbrev mixS (t : Tn) (A : List (List Nat)) (p : List Nat) (r : Nat) : Nat → Bool := fun i => if i < r then okA t (A ++ [p]) i else okA t A i
theorem okA_app {t : Tn} {A : List (List Nat)} {p : List Nat} {r : Nat} : okA t (A ++ [p]) r = (okA t A r && okP t (r / 3) (r % 3) p (op t)) := by
  show (A ++ [p]).all _ = _
  rw [List.all_append, List.all_cons, List.all_nil, Bool.and_true]
theorem bs_rem {p : Nat → Bool} {n r : Nat} (hr : r < n) (h : p r = true) : 2 ^ r ≤ bs p n ∧ bs p n - 2 ^ r = bs (fun i => p i && !decide (r = i)) n := by
  have hd := dif (s := bs p n) (y := 2 ^ r) (n := n) (bs_lt p n) (fun i hi => by
    rw [Nat.testBit_two_pow] at hi
    rw [← of_decide_eq_true hi, bs_bit, h]
    simp [hr])
  refine ⟨hd.1, hd.2.trans (bs_cong (fun i hi => ?_))⟩
  rw [bs_bit, Nat.testBit_two_pow]
  simp [hi]
theorem mix_bit {t : Tn} {A : List (List Nat)} {p : List Nat} {r : Nat} (hr : r < 12) : (bs (mixS t A p r) 12).testBit r = okA t A r := by
  rw [bs_bit, decide_eq_true hr, Bool.true_and]
  show (if r < r then _ else _) = _
  rw [if_neg (by omega)]
theorem mix_same {t : Tn} {A : List (List Nat)} {p : List Nat} {r : Nat} (h : okA t (A ++ [p]) r = okA t A r) : bs (mixS t A p (r + 1)) 12 = bs (mixS t A p r) 12 := bs_cong (fun i _ => by
  show (if i < r + 1 then _ else _) = (if i < r then _ else _)
  by_cases z : i = r
  · subst z; rw [if_pos (by omega), if_neg (by omega)]; exact h
  · by_cases y : i < r
    · rw [if_pos (by omega), if_pos y]
    · rw [if_neg (by omega), if_neg y])
theorem mix_less {t : Tn} {A : List (List Nat)} {p : List Nat} {r : Nat} (hr : r < 12) (h0 : okA t A r = true) (h1 : okA t (A ++ [p]) r = false) : 2 ^ r ≤ bs (mixS t A p r) 12 ∧ bs (mixS t A p r) 12 - 2 ^ r = bs (mixS t A p (r + 1)) 12 := by
  have hm : mixS t A p r r = true := by
    show (if r < r then _ else _) = true
    rw [if_neg (by omega)]
    exact h0
  have hb := bs_rem (p := mixS t A p r) (n := 12) hr hm
  refine ⟨hb.1, hb.2.trans (bs_cong (fun i _ => ?_))⟩
  show ((if i < r then _ else _) && !decide (r = i)) = (if i < r + 1 then _ else _)
  by_cases z : r = i
  · subst z
    rw [decide_eq_true rfl, if_pos (show r < r + 1 by omega), h1]
    simp
  · rw [decide_eq_false z]
    by_cases y : i < r
    · rw [if_pos y, if_pos (show i < r + 1 by omega)]; simp
    · rw [if_neg y, if_neg (show ¬ i < r + 1 by omega)]; simp
theorem safM_pairs {κ : KT} {A : List (List Nat)} {p : List Nat} (hWf : Wf ω) (hd : 6 ≤ d) (hA : AO a) (h2 : 2 ≤ tnp (att a)) (hp : p ∈ allO (att a)) {post : Option Value → St → Prop} (K : Cm ω κ l yX9_safe cX9_safe 4 d (some .int) post) (hW : RW p (tit (att a)) σ) (hR : RM a σ)
    (kk : ∀ σ', RW p (tit (att a)) σ' → RM a σ' → EM σ σ' → V ω κ 99 [(0, .ref (ω.2.2.1 35)), (1, .int (nI (bs (okA (att a) (A ++ [p])) 12)))] [.ref (ω.2.2.1 35)] σ') :
    ∀ k r σq, r + k = 12 → Eqx kOrd [44, 45, 46, 47] σ σq → V ω κ 30 [(0, .ref (ω.2.2.1 35)), (1, .int (nI (bs (mixS (att a) A p r) 12))), (3, .int (nI r))] [] σq := by
  have hO := hA.1
  have hit := hO.2.2.2.2.1
  intro k
  induction k with
  | zero =>
    intro r σq h hE
    obtain rfl : r = 12 := by omega
    have hle : (12 : Int32) ≤ nI 12 := by decide
    have e : bs (mixS (att a) A p 12) 12 = bs (okA (att a) (A ++ [p])) 12 := bs_cong (fun i hi => if_pos hi)
    refine R_X9_safe_30 K (by omega) (fun _ => ?_) (fun z_ => absurd hle z_) (fun z_ => absurd hle z_)
    rw [e]
    exact kk σq (hW.keep hE (by decide)) (hR.keep hE (by decide) (by decide)) (EM.of hE (by decide) (by decide))
  | succ k ih =>
    intro r σq h hE
    have hge : ¬ (12 : Int32) ≤ nI r := fun z => absurd ((nI_leI (a := 12) (by decide) (by omega)).mp z) (by omega)
    have hlt := bs_lt (mixS (att a) A p r) 12
    have hb1 := nI_bit1 (n := bs (mixS (att a) A p r) 12) (k := r) (by omega) (by omega)
    rw [mix_bit (by omega)] at hb1
    refine R_X9_safe_30 K (by omega) (fun z_ => absurd z_ hge) (fun _ z_ => ?_) (fun _ z_ => ?_)
    · have h0 : okA (att a) A r = false := by
        cases y : okA (att a) A r
        · rfl
        · exact absurd (hb1.mpr y) z_
      have := ih (r + 1) σq (by omega) hE
      rw [mix_same (by rw [okA_app, h0]; rfl)] at this
      rw [nI_1]
      exact this
    · have h0 := hb1.mp z_
      have hRq := hR.keep hE (by decide) (by decide)
      have hTq := hRq.1
      have hWq := hW.keep hE (by decide)
      obtain ⟨d1, d2⟩ := div3 r (by omega)
      have e1 : nI (tnp (att a)) - 1 = nI (tnp (att a) - 1) := by rw [show (1 : Int32) = nI 1 from rfl, pk_sub (by omega)]
      rw [hTq.1, hTq.2.2.1, hTq.2.2.2.1, hTq.2.2.2.2.1, nI_all hO.1, e1, d2, d1, layM_2]
      have hE1 := layM_E σq (tnp (att a)) (r / 3) (r % 3)
      have hT1 : TM (att a) (layM σq (tnp (att a)) (r / 3) (r % 3)) := hTq.keep hE1 (by decide) (by decide)
      have hW1 := hWq.keep hE1 (by decide)
      have ho := op_ok h2
      refine C_X9_safe_72 K (by omega) (m_goRun (row := fun q => p.getD q 0) rfl (by decide) hit (fun q hq => ⟨hW1.2.1 q hq, row_lt hO hp hq⟩) hWf (by omega) hT1 hO h2 (layM_MM h2 σq _ _) ho.1 ho.2.1 rfl (by omega) rfl (by omega)) (fun v σ1 hq => ?_)
      obtain ⟨rfl, -, q2, q3⟩ := hq
      have hE2 : Eqx kOrd [44, 45, 46, 47] σ σ1 := (hE.tr (hE1.mono (by decide) (by decide))).tr (q3.mono (by decide) (by decide))
      have hR1 := hR.keep hE2 (by decide) (by decide)
      refine R_X9_safe_75 K ?_
      refine C_X9_safe_77 K (by omega) (m_onceShut hWf hO h2 ⟨ho.1, ho.2.1⟩ hR1.1.2.2.2.2.1 q2) (go_I ?_)
      refine R_X9_safe_80 K ?_
      have hsh : okP (att a) (r / 3) (r % 3) p (op (att a)) = !(shN (att a) (r / 3) (r % 3) p (op (att a)) (tit (att a))) := by rw [okP_sh, hW.1]
      have ih2 := ih (r + 1) σ1 (by omega) hE2
      rw [nI_1]
      cases y : shN (att a) (r / 3) (r % 3) p (op (att a)) (tit (att a))
      · rw [y] at hsh
        rw [mix_same (by rw [okA_app, h0, hsh]; rfl)] at ih2
        rw [if_pos (show (if false = true then (1 : Int32) else 0) = 0 from rfl), show (0 : Int32) = nI 0 from rfl, pk_sub (by omega), Nat.sub_zero]
        exact ih2
      · rw [y] at hsh
        have hl := mix_less (t := att a) (A := A) (p := p) (show r < 12 by omega) h0 (by rw [okA_app, h0, hsh]; rfl)
        rw [← hl.2] at ih2
        rw [if_neg (show ¬ (if true = true then (1 : Int32) else 0) = 0 by decide), sh1 r (by omega), pk_sub hl.1]
        exact ih2
end SAFE2
