/-! ===== orders: the model's first row; runs in an order ===== -/
section ROWS2
variable {ω : WT} {l : Launch} {d : Nat} {a : Ab} {σ : St}
theorem mem_fm {α : Type} {f : Nat → List α} {x : α} {m : Nat} : ∀ {n : Nat}, m < n → x ∈ f m → x ∈ fmS f n
  | 0, h, _ => absurd h (by omega)
  | n + 1, h, hx => by
    rw [fmS, List.mem_append]
    by_cases z : m = n
    · subst z; exact Or.inr hx
    · exact Or.inl (mem_fm (by omega) hx)
theorem mem_prm : ∀ (p : List Nat) {S : Nat}, S < 64 → (∀ i, S.testBit i = true ↔ i ∈ p) → p.Nodup → p ∈ prm p.length S
  | [], S, _, _, _ => List.mem_singleton.mpr rfl
  | m :: p, S, hS, h, hd => by
    have hb : S.testBit m = true := (h m).mpr (List.mem_cons_self)
    have hm : m < 6 := Classical.byContradiction fun z => by
      rw [Nat.testBit_lt_two_pow (Nat.lt_of_lt_of_le hS (show 64 ≤ 2 ^ m from Nat.pow_le_pow_right (n := 2) (i := 6) (j := m) (by decide) (show 6 ≤ m by omega)))] at hb
      cases hb
    have hnd := List.nodup_cons.mp hd
    have hr := rem_ok S hS m hm hb
    have hdf := dif (s := S) (y := 2 ^ m) (n := 6) hS (fun i hi => by
      rw [Nat.testBit_two_pow] at hi
      rw [← of_decide_eq_true hi]
      exact hb)
    have ih := mem_prm p (S := S - 2 ^ m) hr.2.1 (fun i => by
      rw [hdf.2, bs_bit, Nat.testBit_two_pow]
      constructor
      · intro z
        simp only [Bool.and_eq_true, decide_eq_true_iff, Bool.not_eq_true', decide_eq_false_iff_not] at z
        have := (h i).mp z.2.1
        rcases List.mem_cons.mp this with y | y
        · exact absurd y.symm z.2.2
        · exact y
      · intro z
        have hi : S.testBit i = true := (h i).mpr (List.mem_cons_of_mem _ z)
        have hi6 : i < 6 := Classical.byContradiction fun y => by
          rw [Nat.testBit_lt_two_pow (Nat.lt_of_lt_of_le hS (show 64 ≤ 2 ^ i from Nat.pow_le_pow_right (n := 2) (i := 6) (j := i) (by decide) (show 6 ≤ i by omega)))] at hi
          cases hi
        have hne : ¬ m = i := fun y => hnd.1 (y ▸ z)
        simp [hi, hi6, hne]) hnd.2
    show m :: p ∈ prm (p.length + 1) S
    rw [prm]
    refine mem_fm hm ?_
    rw [if_pos hb]
    exact List.mem_map.mpr ⟨p, ih, rfl⟩
/-- a row as a list -/
def roL (f : Nat → Nat) : Nat → List Nat
  | 0 => []
  | n + 1 => roL f n ++ [f n]
theorem roL_len (f : Nat → Nat) : ∀ n, (roL f n).length = n
  | 0 => rfl
  | n + 1 => by rw [roL, List.length_append, roL_len f n]; rfl
theorem roL_at (f : Nat → Nat) : ∀ {n q : Nat}, q < n → (roL f n).getD q 0 = f q
  | 0, q, h => absurd h (by omega)
  | n + 1, q, h => by
    rw [roL]
    by_cases z : q = n
    · subst z
      have := gd_at (l1 := roL f q) (l2 := []) (x := f q)
      rw [roL_len] at this
      exact this
    · rw [gd_l (by rw [roL_len]; omega)]
      exact roL_at f (by omega)
theorem roL_mem (f : Nat → Nat) {i : Nat} : ∀ {n : Nat}, i ∈ roL f n ↔ ∃ q, q < n ∧ f q = i
  | 0 => ⟨fun h => absurd h (List.not_mem_nil), fun ⟨q, h, _⟩ => absurd h (by omega)⟩
  | n + 1 => by
    rw [roL, List.mem_append, roL_mem, List.mem_singleton]
    constructor
    · rintro (⟨q, h1, h2⟩ | h)
      · exact ⟨q, by omega, h2⟩
      · exact ⟨n, by omega, h.symm⟩
    · rintro ⟨q, h1, h2⟩
      by_cases z : q = n
      · subst z; exact Or.inr h2.symm
      · exact Or.inl ⟨q, by omega, h2⟩
theorem roL_nd (f : Nat → Nat) : ∀ {n : Nat}, (∀ p q, p < q → q < n → f p ≠ f q) → (roL f n).Nodup
  | 0, _ => List.nodup_nil
  | n + 1, h => by
    rw [roL, List.nodup_append]
    refine ⟨roL_nd f (fun p q h1 h2 => h p q h1 (by omega)), by simp, fun x hx y hy => ?_⟩
    obtain ⟨q, h1, h2⟩ := (roL_mem f).mp hx
    rw [List.mem_singleton] at hy
    rw [← h2, hy]
    exact h q n h1 (by omega)
theorem roL_big (f : Nat → Nat) {n : Nat} (h : ∀ q, q < n → f q < 6) (q : Nat) : (roL f n).getD q 0 < 6 := by
  by_cases z : q < n
  · rw [roL_at f z]; exact h q z
  · rw [List.getD_eq_getElem?_getD, List.getElem?_eq_none (by rw [roL_len]; omega)]
    decide
theorem ag_mem {t : Tn} (hO : TO t) : roL (tag t) (tit t) ∈ prm (tit t) (mtS t) := by
  have hm := mtS_ok hO
  have := mem_prm (roL (tag t) (tit t)) hm.2.1 (fun i => hadS_mem.trans (roL_mem (tag t)).symm) (roL_nd _ hO.2.2.2.2.2.2.2.1)
  rw [roL_len] at this
  exact this
theorem ag_sort {t : Tn} (hO : TO t) : soL (roL (tag t) (tit t)) (tit t) = ascS (mtS t) 6 := by
  have hm := mtS_ok hO
  have := soL_ok (mtS t) hm.2.1
  rw [hm.2.2, List.all_eq_true] at this
  exact eq_of_beq (this _ (ag_mem hO))
theorem ins_loop {κ : KT} {n x : Nat} {p : List Nat} (hn : n ≤ 6) (hx : x < n) (hd : 1 ≤ d) {post : Option Value → St → Prop} (K : Cm ω κ l yX9_firstRow cX9_firstRow 3 d none post)
    (fin : ∀ σ', RW (insR p x) n σ' → Eqx [] [54] σ σ' → V ω κ 30 [(0, .ref (ω.2.2.1 35)), (1, .int (nI (x + 1)))] [] σ') :
    ∀ i r σq, i ≤ x → insR r i = insR p x → RW r n σq → Eqx [] [54] σ σq → V ω κ 40 [(0, .ref (ω.2.2.1 35)), (1, .int (nI x)), (2, .int (nI i))] [] σq := by
  intro i
  induction i with
  | zero =>
    intro r σq hi hr hW hE
    have hle : nI 0 ≤ (0 : Int32) := by decide
    refine R_X9_firstRow_40 K hd (fun _ => ?_) (fun z_ => absurd hle z_) (fun z_ => absurd hle z_) (fun z_ => absurd hle z_) (fun z_ => absurd hle z_) (fun z_ => absurd hle z_) (fun z_ => absurd hle z_) (fun z_ => absurd hle z_) (fun z_ => absurd hle z_)
    rw [nI_1]
    exact fin σq (hr ▸ hW) hE
  | succ i ih =>
    intro r σq hi hr hW hE
    have hge : ¬ nI (i + 1) ≤ (0 : Int32) := fun z => absurd ((nI_leI (b := 0) (by omega) (by decide)).mp z) (by omega)
    have e : nI (i + 1) - 1 = nI i := by rw [show (1 : Int32) = nI 1 from rfl, pk_sub (by omega)]; rfl
    have c1 : (nI (i + 1)).toNatClampNeg = i + 1 := nI_clamp (by omega)
    have c2 : (nI (i + 1) - 1).toNatClampNeg = i := by rw [e]; exact nI_clamp (by omega)
    have i1 : vp_in (nI (i + 1)) 6 := vp_in_nI (by omega) (by omega)
    have i2 : vp_in (nI (i + 1) - 1) 6 := by rw [e]; exact vp_in_nI (by omega) (by omega)
    have hle := hW.le (i := i) (j := i + 1) (by omega) (by omega)
    rw [insR] at hr
    refine R_X9_firstRow_40 K hd (fun z_ => absurd z_ hge) (fun _ => i1) (fun _ => i2) (fun _ z_ => ?_) (fun _ _ => i1) (fun _ _ => i2) (fun _ _ => i1) (fun _ _ => i2) (fun _ z_ => ?_)
    · rw [c1, c2] at z_
      rw [if_pos (hle.mp z_)] at hr
      rw [nI_1]
      exact fin σq (hr ▸ hW) hE
    · rw [c1, c2] at z_ ⊢
      rw [if_neg (fun y => z_ (hle.mpr y))] at hr
      rw [m1 (by omega)]
      exact ih (swL r (i + 1) i) _ (by omega) hr (hW.sw (by omega) (by omega)) ((hE.pA (by simp) _ _).pA (by simp) _ _)
theorem sort_loop {κ : KT} {n : Nat} {p : List Nat} (hn : n ≤ 6) (hd : 1 ≤ d) (h51 : σ.1 2251 = nI n) {post : Option Value → St → Prop} (K : Cm ω κ l yX9_firstRow cX9_firstRow 3 d none post)
    (fin : ∀ σ', RW (soL p n) n σ' → Eqx [] [54] σ σ' → post none σ') :
    ∀ k x σq, x + k = n → 1 ≤ x → RW (soL p x) n σq → Eqx [] [54] σ σq → V ω κ 30 [(0, .ref (ω.2.2.1 35)), (1, .int (nI x))] [] σq := by
  intro k
  induction k with
  | zero =>
    intro x σq h h1 hW hE
    obtain rfl : x = n := by omega
    have hle : σq.1 2251 ≤ nI x := by rw [hE.1 2251 (by decide), h51]; exact nI_le (Nat.le_refl _) (by omega)
    exact R_X9_firstRow_30 K (fun _ => fin σq hW hE) (fun z_ => absurd hle z_)
  | succ k ih =>
    intro x σq h h1 hW hE
    have hge : ¬ σq.1 2251 ≤ nI x := by
      rw [hE.1 2251 (by decide), h51]
      exact fun z => absurd ((nI_leI (by omega) (by omega)).mp z) (by omega)
    refine R_X9_firstRow_30 K (fun z_ => absurd z_ hge) (fun _ => ?_)
    exact ins_loop (σ := σq) (p := soL p x) hn (by omega) hd K (fun σ' h1 h2 => ih (x + 1) σ' (by omega) (by omega) h1 (hE.tr h2)) x (soL p x) σq (Nat.le_refl _) rfl hW Eqx.rf
theorem row_copy {κ : KT} {n : Nat} {f : Nat → Nat} (hn : n ≤ 6) (h51 : σ.1 2251 = nI n) (hf : ∀ q, q < n → σ.2.1 41 q = nI (f q)) {post : Option Value → St → Prop} (K : Cm ω κ l yX9_firstRow cX9_firstRow 3 d none post)
    (fin : ∀ σ', (∀ q, q < n → σ'.2.1 54 q = nI (f q)) → Eqx [] [54] σ σ' → V ω κ 30 [(0, .ref (ω.2.2.1 35)), (1, .int 1)] [] σ') :
    ∀ k x σq, x + k = n → (∀ q, q < x → σq.2.1 54 q = nI (f q)) → Eqx [] [54] σ σq → V ω κ 2 [(0, .ref (ω.2.2.1 35)), (1, .int (nI x))] [] σq := by
  intro k
  induction k with
  | zero =>
    intro x σq h hq hE
    obtain rfl : x = n := by omega
    have hle : σq.1 2251 ≤ nI x := by rw [hE.1 2251 (by decide), h51]; exact nI_le (Nat.le_refl _) (by omega)
    exact R_X9_firstRow_2 K (fun _ => fin σq hq hE) (fun z_ => absurd hle z_) (fun z_ => absurd hle z_) (fun z_ => absurd hle z_)
  | succ k ih =>
    intro x σq h hq hE
    have hge : ¬ σq.1 2251 ≤ nI x := by
      rw [hE.1 2251 (by decide), h51]
      exact fun z => absurd ((nI_leI (by omega) (by omega)).mp z) (by omega)
    have hin : vp_in (nI x) 6 := vp_in_nI (by omega) (by omega)
    refine R_X9_firstRow_2 K (fun z_ => absurd z_ hge) (fun _ => hin) (fun _ => hin) (fun _ => ?_)
    rw [nI_clamp (by omega), nI_1]
    refine ih (x + 1) _ (by omega) (fun q hq2 => ?_) (hE.pA (by simp) _ _)
    show upd (σq.2.1 54) x _ q = _
    by_cases z : q = x
    · subst z; rw [pk_us, hE.2.1 41 (by decide)]; exact hf q (by omega)
    · rw [pk_un z]; exact hq q (by omega)
theorem m_firstRow {t : Tn} (hWf : Wf ω) (hd : 1 ≤ d) (hT : TM t σ) (hO : TO t) (h1 : 1 ≤ tit t) : Sp ω l yX9_firstRow cX9_firstRow 3 none d [.ref (ω.2.2.1 35)] σ (fun v σ' => v = none ∧ RW (ascS (mtS t) 6) (tit t) σ' ∧ Eqx [] [54] σ σ') := by
  refine Sp.of (by decide) (Nat.le_of_ble_eq_true rfl) hWf (fun κ K => R_X9_firstRow_0 K ?_)
  have hit := hO.2.2.2.2.1
  have hnm := hO.2.1
  have hf : ∀ q, q < tit t → tag t q < 6 := fun q hq => by have := hO.2.2.2.2.2.2.1 q hq; omega
  refine row_copy (f := tag t) hit hT.2.2.2.2.1 hT.2.2.2.2.2.2.2 K (fun σ1 hq hE1 => ?_) (tit t) 0 σ (by omega) (fun q hq => absurd hq (by omega)) Eqx.rf
  refine sort_loop (σ := σ1) (p := roL (tag t) (tit t)) hit hd ((hE1.1 2251 (by decide)).trans hT.2.2.2.2.1) K (fun σ2 hW hE2 => ⟨rfl, ?_, hE1.tr hE2⟩) (tit t - 1) 1 σ1 (by omega) (by omega) ?_ Eqx.rf
  · rw [← ag_sort hO]
    exact hW
  · show RW (roL (tag t) (tit t)) (tit t) σ1
    exact ⟨roL_len _ _, fun q hq2 => by rw [roL_at _ hq2]; exact hq q hq2, roL_big _ hf⟩
end ROWS2
