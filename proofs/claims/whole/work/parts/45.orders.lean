/-! ===== orders of the matters; safe, the class's side ===== -/
section ORDERS
variable {ω : WT} {l : Launch} {d : Nat} {a : Ab} {σ : St}
def fmS {α : Type} (f : Nat → List α) : Nat → List α
  | 0 => []
  | n + 1 => fmS f n ++ f n
/-- all orders of k matters of a set, as rows of numbers go -/
def prm : Nat → Nat → List (List Nat)
  | 0, _ => [[]]
  | k + 1, S => fmS (fun m => if S.testBit m then (prm k (S - 2 ^ m)).map (fun p => m :: p) else []) 6
theorem fmS_top {α : Type} {f : Nat → List α} {n : Nat} (h : ∀ i, n ≤ i → f i = []) : ∀ k, fmS f (n + k) = fmS f n
  | 0 => rfl
  | k + 1 => by rw [← Nat.add_assoc, fmS, h _ (by omega), List.append_nil, fmS_top h k]
theorem rem_ok : ∀ S, S < 64 → ∀ m, m < 6 → S.testBit m = true → cb (S - 2 ^ m) 6 + 1 = cb S 6 ∧ S - 2 ^ m < 64 ∧ 2 ^ m ≤ S := by decide +kernel
theorem rem_lt {S m n : Nat} (hS : S < 2 ^ n) : S - 2 ^ m < 2 ^ n := Nat.lt_of_le_of_lt (Nat.sub_le _ _) hS
theorem prm_ne : ∀ {k S : Nat}, S < 64 → cb S 6 = k → prm k S ≠ []
  | 0, S, _, _ => by rw [prm]; exact List.cons_ne_nil _ _
  | k + 1, S, hS, hc => by
    have hex : ∃ m, m < 6 ∧ S.testBit m = true := by
      refine Classical.byContradiction fun z => ?_
      have : cb S 6 = cb 0 6 := cb_cong (fun i hi => by
        rw [Nat.zero_testBit]
        cases e : S.testBit i
        · rfl
        · exact absurd ⟨i, hi, e⟩ z)
      rw [this] at hc
      exact absurd hc (by
        rw [show cb 0 6 = 0 by decide]
        omega)
    obtain ⟨m, hm, hb⟩ := hex
    have ih := prm_ne (k := k) (rem_ok S hS m hm hb).2.1 (by have := (rem_ok S hS m hm hb).1; omega)
    have hmem : ∀ {n : Nat} {f : Nat → List (List Nat)} {x : List Nat}, m < n → x ∈ f m → x ∈ fmS f n := by
      intro n
      induction n with
      | zero => intro f x h; omega
      | succ n ihn =>
        intro f x h hx
        rw [fmS, List.mem_append]
        by_cases z : m = n
        · subst z; exact Or.inr hx
        · exact Or.inl (ihn (by omega) hx)
    obtain ⟨p, hp⟩ := List.exists_mem_of_ne_nil _ ih
    have : (m :: p) ∈ prm (k + 1) S := by
      rw [prm]
      refine hmem hm ?_
      rw [if_pos hb]
      exact List.mem_map.mpr ⟨p, hp, rfl⟩
    exact List.ne_nil_of_mem this
/-- the vote on a matter at a moment -/
abbrev stM (t : Tn) (me la m : Nat) (mo : Nat × Nat) : Nat × Int32 × Nat × Nat × Nat := stepS (tnp t) me la (tkd t) (fun x => tws t x m) (fun _ => false) mo
/-- never shut, in an order from a moment on -/
def okP (t : Tn) (me la : Nat) : List Nat → Nat × Nat → Bool
  | [], _ => true
  | m :: p, mo => decide ((stM t me la m mo).2.2.1 ≠ 0) && okP t me la p (stM t me la m mo).2.2.2
theorem fmS_all {α : Type} {f : Nat → List α} {P : α → Bool} : ∀ {n : Nat}, (fmS f n).all P = true ↔ ∀ m, m < n → (f m).all P = true
  | 0 => ⟨fun _ m h => absurd h (by omega), fun _ => rfl⟩
  | n + 1 => by
    rw [fmS, List.all_append, Bool.and_eq_true, fmS_all (n := n)]
    constructor
    · intro h m hm
      by_cases z : m = n
      · subst z; exact h.2
      · exact h.1 m (by omega)
    · intro h
      exact ⟨fun m hm => h m (by omega), h n (by omega)⟩
theorem stM_ok {t : Tn} {me la m : Nat} {mo : Nat × Nat} (hO : TO t) (h2 : 2 ≤ tnp t) (h : mo.1 < 2 ^ tnp t ∧ mo.2 < tnp t) : (stM t me la m mo).2.2.2.1 < 2 ^ tnp t ∧ (stM t me la m mo).2.2.2.2 < tnp t ∧ (stM t me la m mo).2.2.1 ≤ tnp t := by
  have := stepS_ok (me := me) (la := la) (kd := tkd t) (w := fun x => tws t x m) (fr := fun _ => false) (show 1 ≤ tnp t by omega) hO.1 h.1 h.2
  exact ⟨this.1, this.2.1, this.2.2.2⟩
theorem hadS_mem {f : Nat → Nat} {i : Nat} : ∀ {n : Nat}, (hadS f n).testBit i = true ↔ ∃ p, p < n ∧ f p = i
  | 0 => ⟨fun h => absurd h (by rw [hadS, Nat.zero_testBit]; decide), fun ⟨p, h, _⟩ => absurd h (by omega)⟩
  | n + 1 => by
    rw [hadS, Nat.testBit_or, Bool.or_eq_true, hadS_mem, Nat.testBit_two_pow, decide_eq_true_iff]
    constructor
    · rintro (⟨p, h1, h2⟩ | h)
      · exact ⟨p, by omega, h2⟩
      · exact ⟨n, by omega, h⟩
    · rintro ⟨p, h1, h2⟩
      by_cases z : p = n
      · subst z; exact Or.inr h2
      · exact Or.inl ⟨p, by omega, h2⟩
theorem twS_of {f : Nat → Nat} : ∀ {n : Nat}, (∀ p q, p < q → q < n → f p ≠ f q) → twS f n = false
  | 0, _ => rfl
  | n + 1, h => by
    rw [twS, twS_of (fun p q h1 h2 => h p q h1 (by omega)), Bool.false_or]
    cases e : (hadS f n).testBit (f n)
    · rfl
    · obtain ⟨p, h1, h2⟩ := hadS_mem.mp e
      exact absurd h2 (h p n h1 (by omega))
/-- the matters to put -/
abbrev mtS (t : Tn) : Nat := hadS (tag t) (tit t)
theorem mtS_ok {t : Tn} (hO : TO t) : mtS t < 2 ^ tnm t ∧ mtS t < 64 ∧ cb (mtS t) 6 = tit t := by
  have hnm := hO.2.1
  have hf : ∀ q, q < tit t → tag t q < 6 := fun q hq => by have := hO.2.2.2.2.2.2.1 q hq; omega
  have h64 : mtS t < 64 := hadS_lt hf
  refine ⟨?_, h64, ?_⟩
  · refine Nat.lt_pow_two_of_testBit _ (fun i hi => ?_)
    cases e : (mtS t).testBit i
    · rfl
    · obtain ⟨p, h1, h2⟩ := hadS_mem.mp e
      have := hO.2.2.2.2.2.2.1 p h1
      omega
  · have := (hadS_cb (f := tag t) hf).2.mp (twS_of hO.2.2.2.2.2.2.2.1)
    rw [← this]
    exact (cb_top (s := mtS t) (n := 6) h64 2).symm
theorem toPut_loop {κ : KT} {t : Tn} (hT : TC t σ) (hO : TO t) (K : Cm ω κ l yX4_mattersToPut cX4_mattersToPut 3 d (some .int) (rI (nI (mtS t)) σ)) : ∀ k q, q + k = tit t → V ω κ 4 [(0, .ref (ω.2.2.1 28)), (1, .int (nI (hadS (tag t) q))), (2, .int (nI q))] [] σ
  | 0, q, h => by
    obtain rfl : q = tit t := by omega
    have hit := hO.2.2.2.2.1
    have hle : σ.1 644 ≤ nI (tit t) := by rw [hT.2.2.2.2.1]; exact nI_le (Nat.le_refl _) (by omega)
    exact R_X4_mattersToPut_4 K (fun _ => ⟨rfl, rfl⟩) (fun z_ => absurd hle z_) (fun z_ => absurd hle z_)
  | k + 1, q, h => by
    have hit := hO.2.2.2.2.1
    have hnm := hO.2.1
    have hag := hO.2.2.2.2.2.2.1 q (by omega)
    have hge : ¬ σ.1 644 ≤ nI q := by
      rw [hT.2.2.2.2.1]
      exact fun z => absurd ((nI_leI (by omega) (by omega)).mp z) (by omega)
    refine R_X4_mattersToPut_4 K (fun z_ => absurd z_ hge) (fun _ => vp_in_nI (by omega) (by omega)) (fun _ => ?_)
    rw [nI_clamp (by omega), hT.2.2.2.2.2.2.2.2.2 q (by omega), sh1 _ (by omega), fa_or, nI_1]
    exact toPut_loop hT hO K k (q + 1) (by omega)
theorem m_toPut {t : Tn} (hWf : Wf ω) (hT : TC t σ) (hO : TO t) : Sp ω l yX4_mattersToPut cX4_mattersToPut 3 (some .int) d [.ref (ω.2.2.1 28)] σ (rI (nI (mtS t)) σ) :=
  Sp.of (by decide) (Nat.le_of_ble_eq_true rfl) hWf (fun κ K => R_X4_mattersToPut_0 K (toPut_loop hT hO K (tit t) 0 (by omega)))
theorem bitI {S m : Nat} (hS : S < 64) (hm : m < 6) : ((nI S >>> (nI m &&& 31)) &&& 1 = 0) ↔ S.testBit m = false := by
  rw [nI_bit (by omega) (by omega)]
  cases e : S.testBit m
  · exact ⟨fun _ => rfl, fun _ => rfl⟩
  · exact ⟨fun h => absurd h (by decide), fun h => by cases h⟩
theorem remI {S m : Nat} (hS : S < 64) (hm : m < 6) (hb : S.testBit m = true) : nI S &&& (((1 : Int32) <<< (nI m &&& 31)) ^^^ -1) = nI (S - 2 ^ m) := by
  rw [sh1 m (by omega), nI_andnot (n := 6) hS, (dif (s := S) (y := 2 ^ m) (n := 6) hS (fun i hi => by
    rw [Nat.testBit_two_pow] at hi
    rw [← of_decide_eq_true hi]
    exact hb)).2]
/-- step by a matter of the town -/
theorem m_stepM {t : Tn} {me la m : Nat} {mo : Nat × Nat} (hWf : Wf ω) (hd : 3 ≤ d) (hT : TC t σ) (hO : TO t) (hme : σ.1 897 = nI me) (hme3 : me ≤ 3) (hla : σ.1 898 = nI la) (hla2 : la ≤ 2) (h : mo.1 < 2 ^ tnp t ∧ mo.2 < tnp t) (hm : m < tnm t) :
    Sp ω l yX2_step cX2_step 7 (some .int) d [.ref (ω.2.2.1 14), .int (mI mo), .int (σ.2.1 12 m), .int 0] σ (fun v σ' => v = some (.int (mI (stM t me la m mo).2.2.2)) ∧ σ'.1 900 = (stM t me la m mo).2.1 ∧ σ'.1 901 = nI (stM t me la m mo).2.2.1 ∧ Eqx [899, 900, 901] [] σ σ') := by
  rw [hT.2.2.2.2.2.2.2.2.1 m hm, show (0 : Int32) = nI 0 from rfl]
  refine Sp.imp (m_step hWf hd hT hO hme hme3 hla hla2 h.1 h.2) (fun v σ' hp => ?_)
  have hs : stepS (tnp t) me la (tkd t) (bs (fun x => tws t x m) (tnp t)).testBit (0 : Nat).testBit (mo.1, mo.2) = stM t me la m mo := stepS_cong (fun x hx => by rw [bs_bit]; simp [hx]) (fun x _ => zero_tb x)
  rw [hs] at hp
  obtain ⟨rfl, rfl⟩ := hp
  exact ⟨rfl, rfl, rfl, ((Eqx.rf.pS (by simp) _).pS (by simp) _).pS (by simp) _⟩
theorem m_isOpen {t : Tn} {me la : Nat} (hWf : Wf ω) (hO : TO t) (h2 : 2 ≤ tnp t) (hme3 : me ≤ 3) (hla2 : la ≤ 2) : ∀ (k : Nat) {dp S d : Nat} {mo : Nat × Nat} {σ : St}, dp + k = tit t → cb S 6 = k → S < 2 ^ tnm t → (mo.1 < 2 ^ tnp t ∧ mo.2 < tnp t) → k + 4 ≤ d → TC t σ → σ.1 897 = nI me → σ.1 898 = nI la →
    Sp ω l yX4_isOpenFrom cX4_isOpenFrom 6 (some .boolean) d [.ref (ω.2.2.1 28), .int (nI dp), .int (nI S), .int (mI mo)] σ (fun v σ' => v = some (.int (if (prm k S).all (fun p => okP t me la p mo) then 1 else 0)) ∧ Eqx [899, 900, 901] [] σ σ') := by
  intro k
  induction k with
  | zero =>
    intro dp S d mo σ h hc hS hmo hd hT hme hla
    refine Sp.of (by decide) (Nat.le_of_ble_eq_true rfl) hWf (fun κ K => ?_)
    have hit := hO.2.2.2.2.1
    have hge : ¬ nI dp < σ.1 644 := by
      rw [hT.2.2.2.2.1]
      exact fun z => absurd ((nI_ltI (by omega) (by omega)).mp z) (by omega)
    exact R_X4_isOpenFrom_0 K (fun z_ => absurd z_ hge) (fun _ => ⟨rfl, Eqx.rf⟩)
  | succ k ih =>
    intro dp S d mo σ h hc hS hmo hd hT hme hla
    refine Sp.of (by decide) (Nat.le_of_ble_eq_true rfl) hWf (fun κ K => ?_)
    have hit := hO.2.2.2.2.1
    have hnm := hO.2.1
    have hS64 : S < 64 := Nat.lt_of_lt_of_le hS (Nat.pow_le_pow_right (by omega) hnm : 2 ^ tnm t ≤ 2 ^ 6)
    have hlt : nI dp < σ.1 644 := by
      rw [hT.2.2.2.2.1]
      exact (nI_ltI (by omega) (by omega)).mpr (by omega)
    have htop : prm (k + 1) S = fmS (fun m => if S.testBit m then (prm k (S - 2 ^ m)).map (fun p => m :: p) else []) (tnm t) := by
      rw [prm]
      have := fmS_top (f := fun m => if S.testBit m then (prm k (S - 2 ^ m)).map (fun p => m :: p) else []) (n := tnm t) (fun i hi => by
        rw [Nat.testBit_lt_two_pow (Nat.lt_of_lt_of_le hS (Nat.pow_le_pow_right (by omega) hi))]
        rfl) (6 - tnm t)
      rw [show tnm t + (6 - tnm t) = 6 by omega] at this
      exact this
    have hone : ∀ m, S.testBit m = true → m < 6 → (((if S.testBit m then (prm k (S - 2 ^ m)).map (fun p => m :: p) else []).all (fun p => okP t me la p mo)) = (decide ((stM t me la m mo).2.2.1 ≠ 0) && (prm k (S - 2 ^ m)).all (fun p => okP t me la p (stM t me la m mo).2.2.2))) := fun m hb hm => by
      rw [if_pos hb, List.all_map]
      have hne := prm_ne (k := k) (rem_ok S hS64 m hm hb).2.1 (by have := (rem_ok S hS64 m hm hb).1; omega)
      cases e : prm k (S - 2 ^ m) with
      | nil => exact absurd e hne
      | cons p ps =>
        by_cases z : (stM t me la m mo).2.2.1 = 0
        · have e1 : ((fun p => okP t me la p mo) ∘ fun p => m :: p) = fun _ => false := funext fun p => by
            show (decide ((stM t me la m mo).2.2.1 ≠ 0) && okP t me la p (stM t me la m mo).2.2.2) = false
            rw [decide_eq_false (fun q => q z)]
            rfl
          rw [e1, decide_eq_false (fun q => q z), List.all_cons]
          rfl
        · have e1 : ((fun p => okP t me la p mo) ∘ fun p => m :: p) = fun p => okP t me la p (stM t me la m mo).2.2.2 := funext fun p => by
            show (decide ((stM t me la m mo).2.2.1 ≠ 0) && okP t me la p (stM t me la m mo).2.2.2) = _
            rw [decide_eq_true z]
            rfl
          rw [e1, decide_eq_true z, Bool.true_and]
    have loop : ∀ j m σq, m + j = tnm t → (fmS (fun m => if S.testBit m then (prm k (S - 2 ^ m)).map (fun p => m :: p) else []) m).all (fun p => okP t me la p mo) = true → Eqx [899, 900, 901] [] σ σq → V ω κ 16 [(0, .ref (ω.2.2.1 28)), (1, .int (nI dp)), (2, .int (nI S)), (3, .int (mI mo)), (4, .int (nI m))] [] σq := by
      intro j
      induction j with
      | zero =>
        intro m σq hm hall hE
        obtain rfl : m = tnm t := by omega
        have hle : σq.1 641 ≤ nI (tnm t) := by rw [hE.1 641 (by decide), hT.2.1]; exact nI_le (Nat.le_refl _) (by omega)
        refine R_X4_isOpenFrom_16 K (fun _ => ⟨?_, hE⟩) (fun z_ => absurd hle z_) (fun z_ => absurd hle z_) (fun z_ => absurd hle z_)
        rw [htop, hall]
        rfl
      | succ j ihj =>
        intro m σq hm hall hE
        have hTq : TC t σq := hT.keep hE (by decide) (by decide)
        have hge : ¬ σq.1 641 ≤ nI m := by
          rw [hTq.2.1]
          exact fun z => absurd ((nI_leI (by omega) (by omega)).mp z) (by omega)
        have bI := bitI hS64 (show m < 6 by omega)
        have nx : ∀ {σ'}, ((if S.testBit m then (prm k (S - 2 ^ m)).map (fun p => m :: p) else []).all (fun p => okP t me la p mo)) = true → Eqx [899, 900, 901] [] σ σ' → V ω κ 16 [(0, .ref (ω.2.2.1 28)), (1, .int (nI dp)), (2, .int (nI S)), (3, .int (mI mo)), (4, .int (nI m + 1))] [] σ' := fun hx hE' => by
          rw [nI_1]
          refine ihj (m + 1) _ (by omega) ?_ hE'
          rw [fmS, List.all_append, hall, hx]
          rfl
        have bad : ∀ {σ'}, ((if S.testBit m then (prm k (S - 2 ^ m)).map (fun p => m :: p) else []).all (fun p => okP t me la p mo)) = false → Eqx [899, 900, 901] [] σ σ' → (some (Value.int 0) = some (Value.int (if (prm (k + 1) S).all (fun p => okP t me la p mo) then (1 : Int32) else 0))) ∧ Eqx [899, 900, 901] [] σ σ' := fun hx hE' => by
          refine ⟨?_, hE'⟩
          rw [if_neg]
          intro z
          rw [htop, fmS_all] at z
          have := z m (by omega)
          rw [hx] at this
          cases this
        refine R_X4_isOpenFrom_16 K (fun z_ => absurd z_ hge) (fun _ z_ => ?_) (fun _ _ => vp_in_nI (by omega) (by omega)) (fun _ z_ => ?_)
        · rw [bI] at z_
          exact nx (by rw [z_]; rfl) hE
        · have hb : S.testBit m = true := by
            cases e : S.testBit m
            · exact absurd (bI.mpr e) z_
            · rfl
          have ho := hone m hb (by omega)
          have hok := stM_ok (me := me) (la := la) (m := m) hO h2 hmo
          rw [nI_clamp (by omega)]
          refine C_X4_isOpenFrom_53 K (by omega) (m_stepM hWf (by omega) hTq hO ((hE.1 897 (by decide)).trans hme) hme3 ((hE.1 898 (by decide)).trans hla) hla2 hmo (by omega)) (fun v σ1 hp => ?_)
          obtain ⟨rfl, -, s2, s3⟩ := hp
          have hE1 := hE.tr s3
          have i0 : σ1.1 901 = 0 ↔ (stM t me la m mo).2.2.1 = 0 := by rw [s2]; exact nI_eq (b := 0) (by have := hO.1; omega) (by decide)
          refine R_X4_isOpenFrom_56 K (fun z0_ => ?_) (fun z0_ => ?_)
          · refine bad ?_ hE1
            rw [ho, i0.mp z0_]
            rfl
          · have hz : (stM t me la m mo).2.2.1 ≠ 0 := fun q => z0_ (i0.mpr q)
            rw [decide_eq_true hz, Bool.true_and] at ho
            have hr := rem_ok S hS64 m (by omega) hb
            rw [remI hS64 (by omega) hb, show nI dp + 1 = nI (dp + 1) from nI_1 dp]
            refine C_X4_isOpenFrom_82 K (by omega) (ih (dp := dp + 1) (S := S - 2 ^ m) (mo := (stM t me la m mo).2.2.2) (by omega) (by omega) (rem_lt hS) ⟨hok.1, hok.2.1⟩ (by omega) (hT.keep hE1 (by decide) (by decide)) ((hE1.1 897 (by decide)).trans hme) ((hE1.1 898 (by decide)).trans hla)) (fun v σ2 hp => ?_)
            obtain ⟨rfl, s4⟩ := hp
            cases e : (prm k (S - 2 ^ m)).all (fun p => okP t me la p (stM t me la m mo).2.2.2)
            · rw [e] at ho
              exact R_X4_isOpenFrom_85 K (fun y_ => absurd rfl y_) (fun _ => bad ho (hE1.tr s4))
            · rw [e] at ho
              exact R_X4_isOpenFrom_85 K (fun _ => nx ho (hE1.tr s4)) (fun y_ => absurd y_ (by decide))
    exact R_X4_isOpenFrom_0 K (fun _ => loop (tnm t) 0 σ (by omega) rfl Eqx.rf) (fun z_ => absurd hlt z_)
theorem m_never {t : Tn} {me la : Nat} (hWf : Wf ω) (hd : 12 ≤ d) (hT : TC t σ) (hO : TO t) (h2 : 2 ≤ tnp t) (hme : σ.1 897 = nI me) (hme3 : me ≤ 3) (hla : σ.1 898 = nI la) (hla2 : la ≤ 2) : Sp ω l yX4_isNeverShut cX4_isNeverShut 1 (some .boolean) d [.ref (ω.2.2.1 28)] σ (fun v σ' => v = some (.int (if (prm (tit t) (mtS t)).all (fun p => okP t me la p (op t)) then 1 else 0)) ∧ Eqx [899, 900, 901] [] σ σ') := by
  refine Sp.of (by decide) (Nat.le_of_ble_eq_true rfl) hWf (fun κ K => R_X4_isNeverShut_0 K ?_)
  have hmt := mtS_ok hO
  have hit := hO.2.2.2.2.1
  have ho := op_ok h2
  refine C_X4_isNeverShut_3 K (by omega) (m_toPut hWf hT hO) (go_I ?_)
  refine R_X4_isNeverShut_6 K (by omega) ?_
  have e : (if σ.1 640 - 1 < 0 then (0 : Int32) else σ.1 640 - 1) * 256 + (((1 : Int32) <<< (σ.1 640 &&& 31)) - 1) = mI (op t) := by
    rw [hT.1, nI_all hO.1, show (1 : Int32) = nI 1 from rfl, pk_sub (by omega), if_neg (nI_pos (by have := hO.1; omega)), show (256 : Int32) = nI 256 from rfl, pk_mul, nI_add]
  rw [e, show (0 : Int32) = nI 0 from rfl]
  refine C_X4_isNeverShut_13 K (by omega) (m_isOpen hWf hO h2 hme3 hla2 (tit t) (dp := 0) (by omega) hmt.2.2 hmt.1 ⟨ho.1, ho.2.1⟩ (by omega) hT hme hla) (fun v σ' hp => ?_)
  obtain ⟨rfl, q1⟩ := hp
  refine R_X4_isNeverShut_16 K ?_ ⟨rfl, q1⟩
  split
  · exact Or.inr rfl
  · exact Or.inl rfl
def safB (t : Tn) (r : Nat) : Bool := (prm (tit t) (mtS t)).all (fun p => okP t (r / 3) (r % 3) p (op t))
def o_safe (a : Ab) : Int32 := if tnp (att a) = 0 then -3 else nI (bs (safB (att a)) 12)
theorem safeC_inner {κ : KT} {t : Tn} {m : Nat} (hWf : Wf ω) (hd : 14 ≤ d) (hT : TC t σ) (hO : TO t) (h2 : 2 ≤ tnp t) (hm : m < 4) {post : Option Value → St → Prop} (K : Cm ω κ l yX8_safe cX8_safe 4 d (some .int) post)
    (fin : ∀ σ', Eqx [897, 898, 899, 900, 901] [] σ σ' → V ω κ 17 [(0, .ref (ω.2.2.1 0)), (1, .int (nI (bs (safB t) (3 * (m + 1))))), (2, .int (nI (m + 1)))] [] σ') :
    ∀ k r σq, r + k = 3 → Eqx [897, 898, 899, 900, 901] [] σ σq → V ω κ 24 [(0, .ref (ω.2.2.1 0)), (1, .int (nI (bs (safB t) (3 * m + r)))), (2, .int (nI m)), (3, .int (nI r))] [] σq
  | 0, r, σq, h, hE => by
    obtain rfl : r = 3 := by omega
    exact R_X8_safe_24 K (by omega) (fun _ => by rw [nI_1]; exact fin σq hE) (fun z_ => absurd (show nI 3 ≤ nI 3 from nI_le (Nat.le_refl _) (by omega)) z_)
  | k + 1, r, σq, h, hE => by
    have hge : ¬ (3 : Int32) ≤ nI r := fun z => absurd ((nI_leI (a := 3) (by decide) (by omega)).mp z) (by omega)
    refine R_X8_safe_24 K (by omega) (fun z_ => absurd z_ hge) (fun _ => ?_)
    have hE1 : Eqx [897, 898, 899, 900, 901] [] σ (pS (pS σq 897 (nI m)) 898 (nI r)) := (hE.pS (by simp) _).pS (by simp) _
    refine C_X8_safe_42 K (by omega) (m_never hWf (by omega) (hT.keep hE1 (by decide) (by decide)) hO h2 (me := m) (la := r) rfl (by omega) rfl (by omega)) (fun v σ' hp => ?_)
    obtain ⟨rfl, p2⟩ := hp
    have hE' := hE1.tr (p2.mono (by simp) (by simp))
    have er : (3 * m + r) / 3 = m ∧ (3 * m + r) % 3 = r := by omega
    have ec : (prm (tit t) (mtS t)).all (fun p => okP t m r p (op t)) = safB t (3 * m + r) := by
      unfold safB
      rw [er.1, er.2]
    rw [ec]
    have ih := safeC_inner hWf hd hT hO h2 hm K fin k (r + 1) σ' (by omega) hE'
    rw [← Nat.add_assoc, ← bs_or] at ih
    have e3 : (1 : Int32) <<< ((3 * nI m + nI r) &&& 31) = nI (2 ^ (3 * m + r)) := by
      rw [show (3 : Int32) = nI 3 from rfl, pk_mul, nI_add, sh1 _ (by omega)]
    cases y : safB t (3 * m + r)
    · rw [y, if_neg (by decide), show (0 : Int32) = nI 0 from rfl, fa_or, Nat.or_zero] at ih
      exact R_X8_safe_45 K (by omega) (fun _ => by rw [nI_1]; exact ih) (fun z_ => absurd rfl z_)
    · rw [y, if_pos rfl] at ih
      exact R_X8_safe_45 K (by omega) (fun z_ => absurd z_ (by decide)) (fun _ => by rw [nI_1, e3]; exact ih)
theorem safeC_outer {κ : KT} {t : Tn} (hWf : Wf ω) (hd : 14 ≤ d) (hT : TC t σ) (hO : TO t) (h2 : 2 ≤ tnp t) {post : Option Value → St → Prop} (K : Cm ω κ l yX8_safe cX8_safe 4 d (some .int) post)
    (fin : ∀ σ', Eqx [897, 898, 899, 900, 901] [] σ σ' → post (some (.int (nI (bs (safB t) 12)))) σ') :
    ∀ k m σq, m + k = 4 → Eqx [897, 898, 899, 900, 901] [] σ σq → V ω κ 17 [(0, .ref (ω.2.2.1 0)), (1, .int (nI (bs (safB t) (3 * m)))), (2, .int (nI m))] [] σq
  | 0, m, σq, h, hE => by
    obtain rfl : m = 4 := by omega
    exact R_X8_safe_17 K (fun _ => fin σq hE) (fun z_ => absurd (show nI 4 ≤ nI 4 from nI_le (Nat.le_refl _) (by omega)) z_)
  | k + 1, m, σq, h, hE => by
    have hge : ¬ (4 : Int32) ≤ nI m := fun z => absurd ((nI_leI (a := 4) (by decide) (by omega)).mp z) (by omega)
    refine R_X8_safe_17 K (fun z_ => absurd z_ hge) (fun _ => ?_)
    exact safeC_inner hWf hd hT hO h2 (by omega) K (fun σ' hE' => safeC_outer hWf hd hT hO h2 K fin k (m + 1) σ' (by omega) hE') 3 0 σq (by omega) hE
theorem c_safe (hWf : Wf ω) (hd : 14 ≤ d) (hA : AO a) (hR : RC a σ) : Sp ω l yX8_safe cX8_safe 4 (some .int) d [.ref (ω.2.2.1 0)] σ (PC (o_safe a) a σ) := by
  refine Sp.of (by decide) (Nat.le_of_ble_eq_true rfl) hWf (fun κ K => ?_)
  have hnp := hA.1.1
  refine R_X8_safe_0 K (by omega) (fun h0 => ?_) (fun h0 => ?_)
  · rw [hR.1.1] at h0
    have h1 := tw1 h0
    have ho : o_safe a = nI (bs (safB (att a)) 12) := by unfold o_safe; rw [if_neg h1]
    rw [ho] at K
    exact safeC_outer hWf hd hR.1 hA.1 (hA.1.two h1) K (fun σ' hE' => PC.at rfl (hR.keep hE' (by decide) (by decide)) (EC.of hE' (by decide) (by decide))) 4 0 σ (by omega) Eqx.rf
  · rw [hR.1.1] at h0
    have ho : o_safe a = -3 := by unfold o_safe; rw [if_pos (tw0 (by omega) h0)]
    rw [ho]
    exact PC.at rfl hR EC.rf
end ORDERS
