/-! ===== orders: Orders.countFrom ===== -/
section ORDERS3
variable {ω : WT} {l : Launch} {d : Nat} {a : Ab} {σ : St}
/-- from one list to a longer one -/
theorem FD.app {W : List Nat → Bool} {n : Nat} {F : Bool} {pre : List Nat} {A B : List (List Nat)} {σq σ' : St} (h : FD W n F pre A σ σq) (h95 : σ'.1 1795 = if ((F || (A.find? W).isSome) || (B.find? W).isSome) then 1 else 0) (h30 : (F || (A.find? W).isSome) = true → σ'.2.1 30 = σq.2.1 30) (hp : (F || (A.find? W).isSome) = false → ∀ p, B.find? W = some p → ∀ q, q < n → σ'.2.1 30 q = nI ((pre ++ p).getD q 0)) (h29 : ∀ q, q < pre.length → σ'.2.1 29 q = σq.2.1 29 q) (hE : Eqx [899, 900, 901, 1795] [29, 30] σq σ') : FD W n F pre (A ++ B) σ σ' := by
  obtain ⟨f1, f2, f3, f4, f5⟩ := h
  refine ⟨?_, fun z => ?_, fun z p hp2 q hq => ?_, fun q hq => (h29 q hq).trans (f4 q hq), f5.tr hE⟩
  · rw [h95, List.find?_append]
    cases F <;> cases A.find? W <;> cases B.find? W <;> rfl
  · rw [h30 (by rw [z]; rfl)]
    exact f2 z
  · rw [List.find?_append] at hp2
    cases e : A.find? W with
    | some p' =>
      rw [e] at hp2
      have hp3 : p' = p := by simpa using hp2
      subst hp3
      rw [h30 (by rw [e]; cases F <;> rfl)]
      exact f3 z p' e q hq
    | none =>
      rw [e] at hp2
      exact hp (by rw [e, z]; rfl) p (by simpa using hp2) q hq
theorem m_count {t : Tn} {me la mt : Nat} (hWf : Wf ω) (hO : TO t) (h2 : 2 ≤ tnp t) (hme3 : me ≤ 3) (hla2 : la ≤ 2) (hmt : mt < 6) : ∀ (k : Nat) {dp S d : Nat} {mo : Nat × Nat} {σ : St} {F : Bool} {pre : List Nat}, dp + k = tit t → cb S 6 = k → S < 2 ^ tnm t → (mo.1 < 2 ^ tnp t ∧ mo.2 < tnp t) → k + 5 ≤ d → TC t σ → σ.1 897 = nI me → σ.1 898 = nI la → pre.length = dp → (∀ q, q < dp → σ.2.1 29 q = nI (pre.getD q 0)) → (σ.1 1795 = if F then 1 else 0) →
    Sp ω l yX4_countFrom cX4_countFrom 9 (some .int) d [.ref (ω.2.2.1 28), .int (nI dp), .int (nI S), .int (mI mo), .int (nI mt)] σ (fun v σ' => v = some (.int (nI ((prm k S).countP (fun p => wonP t me la mt p mo)))) ∧ FD (fun p => wonP t me la mt p mo) (tit t) F pre (prm k S) σ σ') := by
  intro k
  induction k with
  | zero =>
    intro dp S d mo σ F pre h hc hS hmo hd hT hme hla hpre h29 hF
    refine Sp.of (by decide) (Nat.le_of_ble_eq_true rfl) hWf (fun κ K => ?_)
    have hit := hO.2.2.2.2.1
    have hge : ¬ nI dp < σ.1 644 := by
      rw [hT.2.2.2.2.1]
      exact fun z => absurd ((nI_ltI (by omega) (by omega)).mp z) (by omega)
    refine R_X4_countFrom_0 K (fun z_ => absurd z_ hge) (fun _ => ⟨rfl, ?_, fun _ => rfl, fun _ p hp => ?_, fun q hq => h29 q (by omega), Eqx.rf⟩)
    · rw [hF]
      cases F <;> rfl
    · exact absurd (show (none : Option (List Nat)) = some p from hp) (by simp)
  | succ k ih =>
    intro dp S d mo σ F pre h hc hS hmo hd hT hme hla hpre h29 hF
    refine Sp.of (by decide) (Nat.le_of_ble_eq_true rfl) hWf (fun κ K => ?_)
    have hit := hO.2.2.2.2.1
    have hnm := hO.2.1
    have hS64 : S < 64 := Nat.lt_of_lt_of_le hS (Nat.pow_le_pow_right (by omega) hnm : 2 ^ tnm t ≤ 2 ^ 6)
    have hlt : nI dp < σ.1 644 := by
      rw [hT.2.2.2.2.1]
      exact (nI_ltI (by omega) (by omega)).mpr (by omega)
    have htop : prm (k + 1) S = fmS (fun m => if S.testBit m then (prm k (S - 2 ^ m)).map (fun p => m :: p) else []) (tnm t) := by
      rw [prm]
      have := fmS_top (f := fun m => if S.testBit m then (prm k (S - 2 ^ m)).map (fun p => m :: p) else []) (n := tnm t) (fun i hi => by
        rw [Nat.testBit_lt_two_pow (Nat.lt_of_lt_of_le hS (Nat.pow_le_pow_right (by omega) hi))]
        rfl) (6 - tnm t)
      rw [show tnm t + (6 - tnm t) = 6 by omega] at this
      exact this
    rw [htop] at K
    have loop : ∀ j m σq, m + j = tnm t → FD (fun p => wonP t me la mt p mo) (tit t) F pre (fmS (fun m => if S.testBit m then (prm k (S - 2 ^ m)).map (fun p => m :: p) else []) m) σ σq → V ω κ 19 [(0, .ref (ω.2.2.1 28)), (1, .int (nI dp)), (2, .int (nI S)), (3, .int (mI mo)), (4, .int (nI mt)), (5, .int (nI ((fmS (fun m => if S.testBit m then (prm k (S - 2 ^ m)).map (fun p => m :: p) else []) m).countP (fun p => wonP t me la mt p mo)))), (6, .int (nI m))] [] σq := by
      intro j
      induction j with
      | zero =>
        intro m σq hm hD
        obtain rfl : m = tnm t := by omega
        have hE := hD.2.2.2.2
        have hle : σq.1 641 ≤ nI (tnm t) := by rw [hE.1 641 (by decide), hT.2.1]; exact nI_le (Nat.le_refl _) (by omega)
        exact R_X4_countFrom_19 K (fun _ => ⟨rfl, hD⟩) (fun z_ => absurd hle z_) (fun z_ => absurd hle z_) (fun z_ => absurd hle z_) (fun z_ => absurd hle z_)
      | succ j ihj =>
        intro m σq hm hD
        have hE := hD.2.2.2.2
        have hTq : TC t σq := hT.keep hE (by decide) (by decide)
        have hge : ¬ σq.1 641 ≤ nI m := by
          rw [hTq.2.1]
          exact fun z => absurd ((nI_leI (by omega) (by omega)).mp z) (by omega)
        have bI := bitI hS64 (show m < 6 by omega)
        have fs : fmS (fun m => if S.testBit m then (prm k (S - 2 ^ m)).map (fun p => m :: p) else []) (m + 1) = fmS (fun m => if S.testBit m then (prm k (S - 2 ^ m)).map (fun p => m :: p) else []) m ++ (if S.testBit m then (prm k (S - 2 ^ m)).map (fun p => m :: p) else []) := rfl
        refine R_X4_countFrom_19 K (fun z_ => absurd z_ hge) (fun _ z_ => ?_) (fun _ _ => vp_in_nI (by omega) (by omega)) (fun _ _ => vp_in_nI (by omega) (by omega)) (fun _ z_ => ?_)
        · rw [bI] at z_
          have hx := ihj (m + 1) σq (by omega)
          rw [fs, z_, if_neg (by decide), List.append_nil] at hx
          rw [nI_1]
          exact hx hD
        · have hb : S.testBit m = true := by
            cases e : S.testBit m
            · exact absurd (bI.mpr e) z_
            · rfl
          have hr := rem_ok S hS64 m (by omega) hb
          have hok := stM_ok (me := me) (la := la) (m := m) hO h2 hmo
          rw [nI_clamp (by omega), nI_clamp (by omega), remI hS64 (by omega) hb]
          have hE1 : Eqx [] [29] σq (pA σq 29 dp (nI m)) := Eqx.rf.pA (by simp) _ _
          have hT1 : TC t (pA σq 29 dp (nI m)) := hTq.keep hE1 (by decide) (by decide)
          refine C_X4_countFrom_74 K (by omega) (m_stepM hWf (by omega) hT1 hO ((hE.1 897 (by decide)).trans hme) hme3 ((hE.1 898 (by decide)).trans hla) hla2 hmo (by omega)) (fun v σ1 hp => ?_)
          obtain ⟨rfl, s1, s2, s3⟩ := hp
          have hE2 : Eqx [899, 900, 901, 1795] [29, 30] σq σ1 := (hE1.mono (by simp) (by simp)).tr (s3.mono (by simp) (by simp))
          have hT2 : TC t σ1 := hTq.keep hE2 (by decide) (by decide)
          have e29 : σ1.2.1 29 = upd (σq.2.1 29) dp (nI m) := (s3.2.1 29 (by decide)).trans rfl
          have e30 : σ1.2.1 30 = σq.2.1 30 := (s3.2.1 30 (by decide)).trans rfl
          have e95 : σ1.1 1795 = σq.1 1795 := (s3.1 1795 (by decide)).trans rfl
          have n29 : ∀ q, q < pre.length → σ1.2.1 29 q = σq.2.1 29 q := fun q hq => by rw [e29, pk_un (by omega)]
          have p29 : ∀ q, q < dp + 1 → σ1.2.1 29 q = nI ((pre ++ [m]).getD q 0) := fun q hq => by
            by_cases z : q = dp
            · rw [e29, z, pk_us, ← hpre, gd_at]
            · rw [n29 q (by omega), gd_l (by omega)]
              exact hD.2.2.2.1 q (by omega)
          have nx := fun σ' => ihj (m + 1) σ' (by omega)
          rw [fs, if_pos hb, List.countP_append, List.countP_map] at nx
          refine R_X4_countFrom_77 K (fun z0_ z1_ => ?_) (fun z0_ _ => ?_) (fun z0_ z1_ => ?_) (fun z0_ => ?_)
          · have hmm : m = mt := (nI_eq (by omega) (by omega)).mp z0_
            subst hmm
            rw [s1] at z1_
            have hw : (fun p => wonP t me la m p mo) ∘ (fun p => m :: p) = fun _ => false := by rw [mt_won, decide_eq_false z1_]
            rw [hw, cnt_f, Nat.add_zero] at nx
            rw [nI_1]
            refine nx σ1 (hD.app ?_ (fun _ => e30) (fun _ p hp => ?_) n29 hE2)
            · rw [e95, hD.1, List.find?_map, hw, find_f]
              cases F <;> cases (List.find? (fun p => wonP t me la m p mo) (fmS (fun m => if S.testBit m then (prm k (S - 2 ^ m)).map (fun p => m :: p) else []) m)) <;> rfl
            · rw [List.find?_map, hw, find_f] at hp
              cases hp
          · rw [hT2.2.2.2.2.1, show (1 : Int32) = nI 1 from rfl, pk_sub (by omega), pk_sub (by omega)]
            exact vp_in_nI (by omega) (by omega)
          · have hmm : m = mt := (nI_eq (by omega) (by omega)).mp z0_
            subst hmm
            rw [s1] at z1_
            have hw : (fun p => wonP t me la m p mo) ∘ (fun p => m :: p) = fun _ => true := by rw [mt_won, decide_eq_true z1_]
            have hl := prm_len (S - 2 ^ m) hr.2.1
            have hck : cb (S - 2 ^ m) 6 = k := by omega
            rw [hck] at hl
            rw [hw, cnt_t, hl.1] at nx
            have ei : nI (tit t) - nI dp - 1 = nI k := by
              rw [show (1 : Int32) = nI 1 from rfl, pk_sub (by omega), pk_sub (by omega)]
              congr 1
              omega
            rw [hT2.2.2.2.2.1, ei, nI_clamp (by omega), nI_add]
            refine C_X4_countFrom_142 K (by omega) (m_keepFirst (m := m) (pre := pre) hWf (by omega) hO hT2 (rem_lt hS) hpre (by omega) (e95.trans hD.1) p29) (fun v σ2 hp => ?_)
            obtain ⟨rfl, q1, q2, q3, q4⟩ := hp
            refine R_X4_countFrom_145 K ?_
            rw [nI_1]
            have hfd : List.find? (fun p => wonP t me la m p mo) ((prm k (S - 2 ^ m)).map (fun p => m :: p)) = some (m :: ascS (S - 2 ^ m) 6) := by
              rw [List.find?_map, hw, find_t, hl.2.1]
              rfl
            refine nx σ2 (hD.app ?_ (fun y => ?_) (fun y p hp => ?_) (fun q hq => ?_) (hE2.tr (q4.mono (by simp) (by simp))))
            · rw [q1, hfd]
              cases F <;> cases (List.find? (fun p => wonP t me la m p mo) (fmS (fun m => if S.testBit m then (prm k (S - 2 ^ m)).map (fun p => m :: p) else []) m)) <;> rfl
            · rw [q2 y, e30]
            · rw [hfd] at hp
              cases hp
              exact q3 y
            · rw [q4.2.1 29 (by decide)]
              exact n29 q hq
          · have hmm : ¬ m = mt := fun q => z0_ (by rw [q])
            have hw := one_won (t := t) (me := me) (la := la) (mt := mt) (m := m) (k := k) (S := S) (mo := mo) hmm
            rw [hw] at nx
            rw [show nI dp + 1 = nI (dp + 1) from nI_1 dp]
            refine C_X4_countFrom_98 K (by omega) (ih (dp := dp + 1) (S := S - 2 ^ m) (mo := (stM t me la m mo).2.2.2) (pre := pre ++ [m]) (by omega) (by omega) (rem_lt hS) ⟨hok.1, hok.2.1⟩ (by omega) hT2 ((hE2.1 897 (by decide)).trans ((hE.1 897 (by decide)).trans hme)) ((hE2.1 898 (by decide)).trans ((hE.1 898 (by decide)).trans hla)) (by rw [List.length_append, hpre]; rfl) p29 (e95.trans hD.1)) (fun v σ2 hp => ?_)
            obtain ⟨rfl, g1, g2, g3, g4, g5⟩ := hp
            refine R_X4_countFrom_101 K ?_
            rw [nI_add, nI_1]
            refine nx σ2 (hD.app ?_ (fun y => (g2 y).trans e30) (fun y p hp q hq => ?_) (fun q hq => ?_) (hE2.tr g5))
            · rw [g1, List.find?_map, hw]
              cases (List.find? (fun p => wonP t me la mt p (stM t me la m mo).2.2.2) (prm k (S - 2 ^ m))) <;> rfl
            · rw [List.find?_map, hw] at hp
              cases e : List.find? (fun p => wonP t me la mt p (stM t me la m mo).2.2.2) (prm k (S - 2 ^ m)) with
              | none => rw [e] at hp; cases hp
              | some p' =>
                rw [e] at hp
                cases hp
                rw [g3 y p' e q hq, List.append_assoc]
                rfl
            · rw [g4 q (by rw [List.length_append]; omega), gd_l hq]
              exact (hD.2.2.2.1 q hq).symm
    exact R_X4_countFrom_0 K (fun _ => loop (tnm t) 0 σ (by omega) ⟨by rw [hF]; cases F <;> rfl, fun _ => rfl, fun _ p hp => absurd (show (none : Option (List Nat)) = some p from hp) (by simp), fun q hq => h29 q (by omega), Eqx.rf⟩) (fun z_ => absurd hlt z_)
end ORDERS3
