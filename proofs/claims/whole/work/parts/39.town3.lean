/-! ===== town: the model's side ===== -/
section TOWN3
variable {ω : WT} {l : Launch} {d : Nat} {a : Ab} {σ : St}
theorem gd_eq {g : Nat → Int32} {w x o : Nat} (ho : o < w) : gdS g w (2 + x * w + o) = (decide (x < 8) && goS o (g (2 + x * w + o))) := by
  unfold gdS
  rw [show 2 + x * w + o - 2 = w * x + o by rw [Nat.mul_comm]; omega, Nat.mul_add_div (by omega), Nat.div_eq_of_lt ho, Nat.mul_add_mod, Nat.mod_eq_of_lt ho, Nat.add_zero]
theorem icI {b n p : Nat} {g : Nat → Int32} {code : Int32} (h53 : σ.1 2253 = nI (b + p)) (hb : b + n ≤ 320) (hp : p ≤ n) (hg : ∀ q, q < n → σ.2.1 38 (b + q) = g q) : (if nI (b + n) ≤ σ.1 2253 then (0 : Int32) else (if σ.2.1 38 (σ.1 2253).toNatClampNeg = code then 1 else 0)) = if p < n ∧ g p = code then 1 else 0 := by
  rw [h53, nI_clamp (by omega)]
  by_cases h : p < n
  · rw [if_neg (fun z => absurd ((nI_leI (by omega) (by omega)).mp z) (by omega)), hg p h]
    by_cases z : g p = code
    · rw [if_pos z, if_pos ⟨h, z⟩]
    · rw [if_neg z, if_neg (fun y => z y.2)]
  · rw [if_pos (nI_le (by omega) (by omega)), if_neg (fun y => h y.1)]
theorem ic0 {q : Prop} [Decidable q] (h : (if q then (1 : Int32) else 0) = 0) : ¬ q := fun z => by
  rw [if_pos z] at h
  exact absurd h (by decide)
theorem ic1 {q : Prop} [Decidable q] (h : ¬ (if q then (1 : Int32) else 0) = 0) : q := by
  by_cases z : q
  · exact z
  · rw [if_neg z] at h
    exact absurd rfl h
/-- what readOne leaves: a fault at p', or one more person -/
def ROp (g : Nat → Int32) (b n m x : Nat) (σ : St) : Option Value → St → Prop := fun v σ' =>
  (v = some (.int 0) ∧ ∃ o, 1 ≤ o ∧ o < m + 2 ∧ 2 + x * (m + 2) + o ≤ n ∧ (∀ r, 1 ≤ r → r < o → goS r (g (2 + x * (m + 2) + r)) = true) ∧ (2 + x * (m + 2) + o < n → goS o (g (2 + x * (m + 2) + o)) = false) ∧ σ'.1 2253 = nI (b + (2 + x * (m + 2) + o)) ∧ Eqx [2253] [42] σ σ') ∨
  (v = some (.int 1) ∧ 2 + x * (m + 2) + (m + 2) ≤ n ∧ (∀ r, 1 ≤ r → r < m + 2 → goS r (g (2 + x * (m + 2) + r)) = true) ∧ σ'.1 2253 = nI (b + (2 + x * (m + 2) + (m + 2))) ∧ σ'.1 2254 = nI (x + 1) ∧ σ'.2.1 42 = upd (σ.2.1 42) x (nI (nkd g (m + 2) x)) ∧ σ'.2.1 43 = upd (σ.2.1 43) x (nI (bs (nws g (m + 2) x) m)) ∧ Eqx [2253, 2254] [42, 43] σ σ')
theorem readOne_loop {κ : KT} {b n m x : Nat} {g : Nat → Int32} (hb : b + n ≤ 320) (hx : x < 8) (hm : m ≤ 6) (h54 : σ.1 2254 = nI x) (h55 : σ.1 2255 = nI m) (hg : ∀ q, q < n → σ.2.1 38 (b + q) = g q) (hgo : goS 1 (g (2 + x * (m + 2) + 1)) = true) (hd : 1 ≤ d) (K : Cm ω κ l yX9_readOne cX9_readOne 4 d (some .boolean) (ROp g b n m x σ)) :
    ∀ k r σq, r + k = m → 2 + x * (m + 2) + 2 + r ≤ n → (∀ q, q < r → goS (2 + q) (g (2 + x * (m + 2) + 2 + q)) = true) → σq.1 2253 = nI (b + (2 + x * (m + 2) + 2 + r)) → σq.2.1 42 = upd (σ.2.1 42) x (nI (nkd g (m + 2) x)) → Eqx [2253] [42] σ σq → V ω κ 85 [(0, .ref (ω.2.2.1 35)), (1, .int (nI (b + n))), (2, .int (nI (bs (nws g (m + 2) x) r))), (3, .int (nI r))] [] σq
  | 0, r, σq, h, hn, hgd, h53, h42, hE => by
    obtain rfl : r = m := by omega
    have hle : σq.1 2255 ≤ nI r := by rw [hE.1 2255 (by decide), h55]; exact nI_le (Nat.le_refl _) (by omega)
    have e54 : σq.1 2254 = nI x := (hE.1 2254 (by decide)).trans h54
    refine R_X9_readOne_85 K hd (fun _ => by rw [e54]; exact vp_in_nI (by omega) (by omega)) (fun _ => Or.inr ⟨rfl, by omega, fun q h1 h2 => ?_, ?_, ?_, ?_, ?_, ?_⟩) (fun z_ => absurd hle z_) (fun z_ => absurd hle z_) (fun z_ => absurd hle z_) (fun z_ => absurd hle z_) (fun z_ => absurd hle z_) (fun z_ => absurd hle z_) (fun z_ => absurd hle z_)
    · by_cases z : q = 1
      · subst z; exact hgo
      · have := hgd (q - 2) (by omega)
        rw [show 2 + (q - 2) = q by omega, show 2 + x * (r + 2) + 2 + (q - 2) = 2 + x * (r + 2) + q by omega] at this
        exact this
    · show σq.1 2253 = _
      rw [h53]
      congr 1
      omega
    · show σq.1 2254 + 1 = _
      rw [e54, nI_1]
    · exact h42
    · show upd (σq.2.1 43) (σq.1 2254).toNatClampNeg _ = _
      rw [e54, nI_clamp (by omega), hE.2.1 43 (by decide)]
    · exact ((hE.mono (by simp) (by simp)).pA (by simp) _ _).pS (by simp) _
  | k + 1, r, σq, h, hn, hgd, h53, h42, hE => by
    have hge : ¬ σq.1 2255 ≤ nI r := by
      rw [hE.1 2255 (by decide), h55]
      exact fun z => absurd ((nI_leI (by omega) (by omega)).mp z) (by omega)
    have hgq : ∀ q, q < n → σq.2.1 38 (b + q) = g q := fun q hq => by rw [hE.2.1 38 (by decide)]; exact hg q hq
    have i1 := icI (code := 121) h53 hb hn hgq
    have i2 := icI (code := 110) h53 hb hn hgq
    have hin : ¬ nI (b + n) ≤ σq.1 2253 → vp_in (σq.1 2253) 320 := fun z => by
      rw [h53] at z ⊢
      have : ¬ b + n ≤ b + (2 + x * (m + 2) + 2 + r) := fun y => z (nI_le y (by omega))
      exact vp_in_nI (by omega) (by omega)
    have hin2 : 2 + x * (m + 2) + 2 + r < n → vp_in (σq.1 2253) 320 := fun z => by
      rw [h53]
      exact vp_in_nI (by omega) (by omega)
    have nx : 2 + x * (m + 2) + 2 + r < n → goS (2 + r) (g (2 + x * (m + 2) + 2 + r)) = true → V ω κ 85 [(0, .ref (ω.2.2.1 35)), (1, .int (nI (b + n))), (2, .int (nI (bs (nws g (m + 2) x) r) ||| (if σq.2.1 38 (σq.1 2253).toNatClampNeg = 121 then (1 : Int32) <<< (nI r &&& 31) else 0))), (3, .int (nI r + 1))] [] (pS σq 2253 (σq.1 2253 + 1)) := fun y1 y2 => by
      have bo := bs_or (p := nws g (m + 2) x) (r := r)
      have ec : σq.2.1 38 (σq.1 2253).toNatClampNeg = g (2 + x * (m + 2) + 2 + r) := by rw [h53, nI_clamp (by omega)]; exact hgq _ y1
      have ew : (if g (2 + x * (m + 2) + 2 + r) = 121 then (1 : Int32) <<< (nI r &&& 31) else 0) = (if nws g (m + 2) x r = true then nI (2 ^ r) else 0) := by
        unfold nws
        by_cases z : g (2 + x * (m + 2) + 2 + r) = 121
        · rw [if_pos z, if_pos (by simpa using z), sh1 r (by omega)]
        · rw [if_neg z, if_neg (by simpa using z)]
      rw [ec, ew, bo, nI_1, h53, nI_1]
      refine readOne_loop hb hx hm h54 h55 hg hgo hd K k (r + 1) _ (by omega) (by omega) (fun q hq => ?_) rfl h42 (hE.pS (by simp) _)
      by_cases z : q = r
      · subst z; exact y2
      · exact hgd q (by omega)
    refine R_X9_readOne_85 K hd (fun z_ => absurd z_ hge) (fun z_ => absurd z_ hge) (fun _ z_ => hin z_) (fun _ z_ => ?_) (fun _ z_ => ?_) (fun _ _ z_ => hin z_) (fun _ _ z_ => ?_) (fun _ _ z_ => ?_) (fun _ z1_ z2_ => ?_)
    · rw [i1] at z_
      exact hin2 (ic1 z_).1
    · rw [i1] at z_
      have z := ic1 z_
      exact nx z.1 (by unfold goS; rw [if_neg (by omega), if_neg (by omega), z.2]; rfl)
    · rw [i2] at z_
      exact hin2 (ic1 z_).1
    · rw [i2] at z_
      have z := ic1 z_
      exact nx z.1 (by unfold goS; rw [if_neg (by omega), if_neg (by omega), z.2]; rfl)
    · rw [i1] at z1_
      rw [i2] at z2_
      have w1 := ic0 z1_
      have w2 := ic0 z2_
      refine Or.inl ⟨rfl, 2 + r, by omega, by omega, by omega, fun q q1 q2 => ?_, fun y => ?_, ?_, hE⟩
      · by_cases z : q = 1
        · subst z; exact hgo
        · have := hgd (q - 2) (by omega)
          rw [show 2 + (q - 2) = q by omega, show 2 + x * (m + 2) + 2 + (q - 2) = 2 + x * (m + 2) + q by omega] at this
          exact this
      · rw [← Nat.add_assoc] at y ⊢
        have n1 : ¬ g (2 + x * (m + 2) + 2 + r) = 121 := fun z => w1 ⟨y, z⟩
        have n2 : ¬ g (2 + x * (m + 2) + 2 + r) = 110 := fun z => w2 ⟨y, z⟩
        unfold goS
        rw [if_neg (by omega), if_neg (by omega)]
        simp [n1, n2]
      · rw [h53, Nat.add_assoc (2 + x * (m + 2))]
theorem m_readOne {b n m x : Nat} {g : Nat → Int32} (hWf : Wf ω) (hd : 1 ≤ d) (hb : b + n ≤ 320) (hx : x < 8) (hm : m ≤ 6) (h53 : σ.1 2253 = nI (b + (2 + x * (m + 2) + 1))) (h54 : σ.1 2254 = nI x) (h55 : σ.1 2255 = nI m) (hg : ∀ q, q < n → σ.2.1 38 (b + q) = g q) (hn : 2 + x * (m + 2) + 1 ≤ n) : Sp ω l yX9_readOne cX9_readOne 4 (some .boolean) d [.ref (ω.2.2.1 35), .int (nI (b + n))] σ (ROp g b n m x σ) := by
  refine Sp.of (by decide) (Nat.le_of_ble_eq_true rfl) hWf (fun κ K => ?_)
  have i1 := icI (code := 104) h53 hb hn hg
  have i2 := icI (code := 102) h53 hb hn hg
  have i3 := icI (code := 99) h53 hb hn hg
  have hin : ¬ nI (b + n) ≤ σ.1 2253 → vp_in (σ.1 2253) 320 := fun z => by
    rw [h53] at z ⊢
    have : ¬ b + n ≤ b + (2 + x * (m + 2) + 1) := fun y => z (nI_le y (by omega))
    exact vp_in_nI (by omega) (by omega)
  have hi8 : vp_in (σ.1 2254) 8 := by rw [h54]; exact vp_in_nI (by omega) (by omega)
  have nx : ∀ v : Int32, v = nI (kdN (g (2 + x * (m + 2) + 1))) → (2 + x * (m + 2) + 1 < n) → goS 1 (g (2 + x * (m + 2) + 1)) = true → V ω κ 85 [(0, .ref (ω.2.2.1 35)), (1, .int (nI (b + n))), (2, .int 0), (3, .int 0)] [] (pS (pA σ 42 (σ.1 2254).toNatClampNeg v) 2253 (σ.1 2253 + 1)) := fun v hv y1 y2 => by
    rw [h54, nI_clamp (by omega), h53, nI_1, hv]
    exact readOne_loop hb hx hm h54 h55 hg y2 hd K m 0 _ (by omega) (by omega) (fun q hq => absurd hq (by omega)) rfl rfl ((Eqx.rf.pA (by simp) _ _).pS (by simp) _)
  refine R_X9_readOne_0 K hd hin (fun _ z_ => hin z_) (fun _ _ z_ => hin z_) (fun z1_ z2_ z3_ => ?_) (fun _ _ _ => hi8) (fun _ _ z_ => ?_) (fun _ _ => hi8) (fun _ z_ => ?_) (fun _ => hi8) (fun z_ => ?_)
  · rw [i1] at z1_
    rw [i2] at z2_
    rw [i3] at z3_
    have w1 := ic0 z1_
    have w2 := ic0 z2_
    have w3 := ic0 z3_
    refine Or.inl ⟨rfl, 1, by omega, by omega, hn, fun r h1 h2 => absurd h2 (by omega), fun y => ?_, h53, Eqx.rf⟩
    have n1 : ¬ g (2 + x * (m + 2) + 1) = 104 := fun z => w1 ⟨y, z⟩
    have n2 : ¬ g (2 + x * (m + 2) + 1) = 102 := fun z => w2 ⟨y, z⟩
    have n3 : ¬ g (2 + x * (m + 2) + 1) = 99 := fun z => w3 ⟨y, z⟩
    unfold goS
    rw [if_neg (by omega), if_pos rfl]
    simp [n1, n2, n3]
  · rw [i3] at z_
    have z := ic1 z_
    exact nx 2 (by rw [z.2]; rfl) z.1 (by rw [z.2]; rfl)
  · rw [i2] at z_
    have z := ic1 z_
    exact nx 1 (by rw [z.2]; rfl) z.1 (by rw [z.2]; rfl)
  · rw [i1] at z_
    have z := ic1 z_
    exact nx 0 (by rw [z.2]; rfl) z.1 (by rw [z.2]; rfl)
end TOWN3
