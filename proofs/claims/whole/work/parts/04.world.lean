/-! ===== the state of both systems as numbers; the world that holds it; the judgement V ===== -/
/-- numbers: a field's by its key (64 * its object + its slot), an array's by its object and place; long fields, long arrays -/
abbrev St : Type := (Nat → Int32) × (Nat → Nat → Int32) × (Nat → Int64) × (Nat → Nat → Int64)
/-- a world: classes and slots; the array classes; the objects' addresses; the address of ORDERS_OF's array -/
abbrev WT : Type := va_G × (Nat → ClassId) × (Nat → Nat) × Nat
/-- where the machine stands: all that stays while a method runs -/
abbrev KT : Type := Program × Launch × Env × Room × State × MethodId × Array Value × List Frame × Method × Code × Nat × Nat × (State → Prop)
/-- the tables' words that hold in every state that a call comes to -/
def tbl : List Cond := lw_tbl.filter goodWord
abbrev NW : Nat := 59
/-- objects: class, and of each field: 0 an int, 1 a long, n + 2 the object n -/
def shpO : Nat → Option (Nat × List Nat)
  | 0 => some (8, [3, 12, 16, 17, 23, 25, 30, 33, 0, 0])
  | 2 => some (6, [8, 0, 0])
  | 3 => some (6, [9, 0, 0])
  | 4 => some (6, [10, 0, 0])
  | 5 => some (6, [11, 0, 0])
  | 10 => some (7, [0, 0, 0, 0, 0, 0, 0, 13, 14, 15])
  | 14 => some (2, [12, 0, 0, 0, 0, 0])
  | 15 => some (0, [12, 16, 18, 19, 20, 21, 22])
  | 21 => some (5, [16, 17, 24, 0, 0, 0])
  | 23 => some (1, [12, 16, 26, 27, 28, 29])
  | 28 => some (4, [12, 16, 31, 0, 32])
  | 31 => some (3, [12, 16, 34, 35, 36, 1, 1])
  | 35 => some (9, [0, 0, 38, 39, 40, 0, 0, 41, 42, 0, 0, 0, 43, 0, 0, 0, 44, 45, 0, 0, 0, 0, 0, 0, 0, 0, 0, 46, 47, 48, 49, 50, 0, 0, 51, 52, 53, 54, 55, 56, 57, 58, 59, 60])
  | _ => none
/-- arrays: kind of their places (0 int, 1 long, 2 boolean, 3 Sheet), length -/
def shpA : Nat → Option (Nat × Nat)
  | 1 => some (3, 4)
  | 6 => some (0, 80)
  | 7 => some (0, 80)
  | 8 => some (0, 80)
  | 9 => some (0, 80)
  | 11 => some (0, 8)
  | 12 => some (0, 6)
  | 13 => some (0, 6)
  | 16 => some (0, 6)
  | 17 => some (0, 6)
  | 18 => some (0, 6)
  | 19 => some (0, 6)
  | 20 => some (0, 6)
  | 22 => some (0, 256)
  | 24 => some (0, 256)
  | 25 => some (0, 256)
  | 26 => some (0, 256)
  | 27 => some (0, 256)
  | 29 => some (0, 6)
  | 30 => some (0, 6)
  | 32 => some (0, 9)
  | 33 => some (1, 9)
  | 34 => some (1, 9)
  | 36 => some (0, 4)
  | 37 => some (0, 4)
  | 38 => some (0, 320)
  | 39 => some (0, 8)
  | 40 => some (0, 8)
  | 41 => some (0, 6)
  | 42 => some (0, 8)
  | 43 => some (0, 8)
  | 44 => some (0, 6)
  | 45 => some (0, 6)
  | 46 => some (0, 6)
  | 47 => some (0, 6)
  | 48 => some (0, 4096)
  | 49 => some (0, 7)
  | 50 => some (2, 7)
  | 51 => some (0, 7)
  | 52 => some (0, 7)
  | 53 => some (0, 7)
  | 54 => some (0, 6)
  | 55 => some (0, 6)
  | 56 => some (0, 6)
  | 57 => some (1, 257)
  | 58 => some (1, 257)
  | _ => none
def fv (ω : WT) (σ : St) (k i : Nat) : Nat → Value
  | 0 => .int (σ.1 (64 * k + i))
  | 1 => .long (σ.2.2.1 (64 * k + i))
  | n + 2 => .ref (ω.2.2.1 n)
def fvs (ω : WT) (σ : St) (k : Nat) (fl : List Nat) : List Value := (List.range fl.length).map (fun i => fv ω σ k i (fl.getD i 0))
def ce (ω : WT) (σ : St) (k : Nat) : va_E := match shpO k with
  | some (ci, fl) => .inr (ci, fvs ω σ k fl)
  | none => match shpA k with
    | some (0, n) => .inl (ω.2.1 0, n, .inl (σ.2.1 k))
    | some (1, n) => .inl (ω.2.1 1, n, .inr (.inl (σ.2.2.2 k)))
    | some (2, n) => .inl (ω.2.1 2, n, .inl (σ.2.1 k))
    | some (_, n) => .inl (ω.2.1 3, n, .inr (.inr (.inr (.inr (fun i => some (ω.2.2.1 (2 + i)))))))
    | none => .inr (0, [])
def wd (ω : WT) (σ : St) : va_W := (List.range NW).map (fun k => (ω.2.2.1 k, ce ω σ k))
def wA (ω : WT) : Nat → Prop := fun q => ∃ k, k < NW ∧ q = ω.2.2.1 k
def Wf (ω : WT) : Prop := ∀ i j, i < NW → j < NW → ω.2.2.1 i = ω.2.2.1 j → i = j
abbrev tysW (ω : WT) : List (ClassId × FieldType) := [(ω.2.1 0, .int), (ω.2.1 1, .long), (ω.2.1 2, .boolean), (ω.2.1 3, .object "WonBySeats$Sheet")]
def Hold (ω : WT) (σ : St) (H : Heap) : Prop := va_P ω.1 vwCl (wd ω σ) H
def facV (j : Nat) : Value := .int (nI (([1, 1, 2, 6, 24, 120, 720] : List Nat).getD j 0))
def Stt (ω : WT) (U : State) (H : Heap) : Prop := va_Z "WonBySeats$Orders" "ORDERS_OF" "[I" (.ref ω.2.2.2) (wA ω) U H ∧ va_T .int ω.2.2.2 7 facV (wA ω) U H
def pS (σ : St) (key : Nat) (v : Int32) : St := (fun j => if j = key then v else σ.1 j, σ.2)
def pA (σ : St) (k i : Nat) (v : Int32) : St := (σ.1, fun j => if j = k then upd (σ.2.1 k) i v else σ.2.1 j, σ.2.2)
def pF (σ : St) (k : Nat) (f : Nat → Int32) : St := (σ.1, fun j => if j = k then f else σ.2.1 j, σ.2.2)
def pL (σ : St) (key : Nat) (v : Int64) : St := (σ.1, σ.2.1, fun j => if j = key then v else σ.2.2.1 j, σ.2.2.2)
def pM (σ : St) (k i : Nat) (v : Int64) : St := (σ.1, σ.2.1, σ.2.2.1, fun j => if j = k then vp_updL (σ.2.2.2 k) i v else σ.2.2.2 j)
def pG (σ : St) (k : Nat) (f : Nat → Int64) : St := (σ.1, σ.2.1, σ.2.2.1, fun j => if j = k then f else σ.2.2.2 j)
/-- the judgement: the machine, at pc with these locals and this stack, the world as σ says, comes to its goal -/
def V (ω : WT) (κ : KT) (pc : Nat) (L : List (Nat × Value)) (S : List Value) (σ : St) : Prop := match κ with
  | (p, l, e, R, s, m, args, below, meth, c, cells, slots, Q) => ∀ (H : Heap) (locs : List Loc) (ls : Array Slot), va_S (wA ω) s.heap H locs → Hold ω σ H → lv_has ls c.maxLocals L → W p l e R s m args below meth c H locs cells slots Q (F0 m pc ls S)
/-- what is known where a method of this code stands -/
def Cx (ω : WT) (κ : KT) (l : Launch) (y : MethodName) (cc : ByteArray) (nL d : Nat) : Prop := match κ with
  | (p, l', _, R, s, m, args, _, _, c, cells, slots, _) => p.tables.exec = Jvm.exec ∧ c.code = cc ∧ c.maxLocals = nL ∧ s.vm.findClass y.cls = some m.cls ∧ (∀ w ∈ tbl, w.before args s = true) ∧ va_K ω.1 vwCl (tysW ω) s ∧ Wf ω ∧ Stt ω s s.heap ∧ l' = l ∧ d ≤ R.frames ∧ 40 * d ≤ R.locals ∧ cells ≤ R.cells ∧ slots ≤ R.slots
abbrev rmD (d : Nat) : Room := { frames := d, cells := 0, slots := 0, locals := 40 * d }
def PB (ω : WT) (σ : St) (U : State) : Prop := Hold ω σ U.heap ∧ va_K ω.1 vwCl (tysW ω) U ∧ Stt ω U U.heap
def QM (ω : WT) (post : Option Value → St → Prop) : Array Value → State → Outcome → State → Prop := fun _ st oc t => (∃ (v : Option Value) (σ' : St), oc = .returned v ∧ post v σ' ∧ Hold ω σ' t.heap) ∧ va_F (wA ω) st t
/-- a method's contract: from the world σ with these arguments it returns, and post holds of its answer and the world behind it -/
def Sp (ω : WT) (l : Launch) (y : MethodName) (cc : ByteArray) (nL : Nat) (ret : Option FieldType) (d : Nat) (as : List Value) (σ : St) (post : Option Value → St → Prop) : Prop :=
  Met l y (.code y cc nL ret :: tbl) (rmD d) (va_Pc as (PB ω σ)) (QM ω post) 0 0 (wA ω)
def Cm (ω : WT) (κ : KT) (l : Launch) (y : MethodName) (cc : ByteArray) (nL d : Nat) (ret : Option FieldType) (post : Option Value → St → Prop) : Prop := Cx ω κ l y cc nL d ∧ match κ with
  | (_, _, _, _, s, _, args, below, meth, _, cells, slots, Q) => meth.sig.returnType = ret ∧ meth.locks = false ∧ Q = MQ below (QM ω post) args s cells slots (wA ω)
theorem tbl_good : GoodIn tbl tbl := fun w hw => ⟨hw, good_of_word (List.mem_filter.mp hw).2⟩
theorem tbl_in {w : Cond} (i : Nat) (h : lw_tbl[i]? = some w) (hg : goodWord w = true) : w ∈ tbl := List.mem_filter.mpr ⟨List.mem_of_getElem? h, hg⟩
theorem shpO_len {k ci : Nat} {fl : List Nat} (h : shpO k = some (ci, fl)) : fl.length ≤ 50 := by
  unfold shpO at h
  split at h <;> first | (cases h; decide) | cases h
theorem wd_at (ω : WT) (σ : St) {k : Nat} (h : k < NW) : (wd ω σ)[k]? = some (ω.2.2.1 k, ce ω σ k) := by
  simp [wd, h]
theorem wd_set {ω : WT} {σ σ' : St} {k : Nat} (e : va_E) (he : ce ω σ' k = e) (ho : ∀ j, j ≠ k → ce ω σ' j = ce ω σ j) : (wd ω σ).set k (ω.2.2.1 k, e) = wd ω σ' := by
  apply List.ext_getElem?
  intro j
  by_cases hj : j = k
  · subst hj
    by_cases hl : j < NW
    · rw [List.getElem?_set_self (by simp [wd, hl]), wd_at _ _ hl, he]
    · rw [List.getElem?_eq_none (by simp [wd]; omega), List.getElem?_eq_none (by simp [wd]; omega)]
  · rw [List.getElem?_set_ne (Ne.symm hj)]
    by_cases hl : j < NW
    · rw [wd_at _ _ hl, wd_at _ _ hl, ho j hj]
    · rw [List.getElem?_eq_none (by simp [wd]; omega), List.getElem?_eq_none (by simp [wd]; omega)]
theorem wd_D {ω : WT} (h : Wf ω) (σ : St) : va_D (wA ω) (wd ω σ) := by
  have key : ∀ (k : Nat) (q : Nat × va_E), (wd ω σ)[k]? = some q → k < NW ∧ q.1 = ω.2.2.1 k := by
    intro k q hq
    have hl : k < NW := by
      have := (List.getElem?_eq_some_iff.mp hq).1
      simpa [wd] using this
    rw [wd_at _ _ hl] at hq
    cases hq
    exact ⟨hl, rfl⟩
  refine ⟨fun i j p q hi hj e => ?_, fun k q hk => ?_⟩
  · obtain ⟨h1, h2⟩ := key i p hi
    obtain ⟨h3, h4⟩ := key j q hj
    exact h i j h1 h3 (by rw [← h2, ← h4]; exact e)
  · obtain ⟨h1, h2⟩ := key k q hk
    exact ⟨k, h1, h2⟩
theorem shpO_lt {k : Nat} {x : Nat × List Nat} (h : shpO k = some x) : k < NW := by
  unfold shpO at h
  split at h <;> first | decide | cases h
theorem shpA_lt {k : Nat} {x : Nat × Nat} (h : shpA k = some x) : k < NW := by
  unfold shpA at h
  split at h <;> first | decide | cases h
theorem shpA_O {k : Nat} {x : Nat × Nat} (h : shpA k = some x) : shpO k = none := by
  unfold shpA at h
  split at h <;> first | rfl | cases h
theorem ce_O {ω : WT} {σ : St} {k ci : Nat} {fl : List Nat} (h : shpO k = some (ci, fl)) : ce ω σ k = .inr (ci, fvs ω σ k fl) := by simp [ce, h]
theorem ce_A0 {ω : WT} {σ : St} {k n : Nat} (h : shpA k = some (0, n)) : ce ω σ k = .inl (ω.2.1 0, n, .inl (σ.2.1 k)) := by simp [ce, shpA_O h, h]
theorem ce_A1 {ω : WT} {σ : St} {k n : Nat} (h : shpA k = some (1, n)) : ce ω σ k = .inl (ω.2.1 1, n, .inr (.inl (σ.2.2.2 k))) := by simp [ce, shpA_O h, h]
theorem ce_A2 {ω : WT} {σ : St} {k n : Nat} (h : shpA k = some (2, n)) : ce ω σ k = .inl (ω.2.1 2, n, .inl (σ.2.1 k)) := by simp [ce, shpA_O h, h]
theorem ce_A3 {ω : WT} {σ : St} {k n : Nat} (h : shpA k = some (3, n)) : ce ω σ k = .inl (ω.2.1 3, n, .inr (.inr (.inr (.inr (fun i => some (ω.2.2.1 (2 + i))))))) := by simp [ce, shpA_O h, h]
theorem fvs_get {ω : WT} {σ : St} {k i c : Nat} {fl : List Nat} (h : fl[i]? = some c) : (fvs ω σ k fl)[i]? = some (fv ω σ k i c) := by
  have hl := (List.getElem?_eq_some_iff.mp h).1
  have e : fl[i] = c := Option.some.inj ((List.getElem?_eq_getElem hl).symm.trans h)
  simp [fvs, hl, e]
theorem fvs_len {ω : WT} {σ : St} {k : Nat} {fl : List Nat} : (fvs ω σ k fl).length = fl.length := by simp [fvs]
theorem fv_cong {ω : WT} {σ σ' : St} {k i : Nat} (h1 : σ'.1 (64 * k + i) = σ.1 (64 * k + i)) (h2 : σ'.2.2.1 (64 * k + i) = σ.2.2.1 (64 * k + i)) (c : Nat) : fv ω σ' k i c = fv ω σ k i c := by
  match c with
  | 0 => simp [fv, h1]
  | 1 => simp [fv, h2]
  | n + 2 => rfl
theorem ce_cong {ω : WT} {σ σ' : St} {k : Nat} (h1 : ∀ i, i < 64 → σ'.1 (64 * k + i) = σ.1 (64 * k + i)) (h2 : ∀ i, i < 64 → σ'.2.2.1 (64 * k + i) = σ.2.2.1 (64 * k + i)) (h3 : σ'.2.1 k = σ.2.1 k) (h4 : σ'.2.2.2 k = σ.2.2.2 k) : ce ω σ' k = ce ω σ k := by
  unfold ce
  split
  · rename_i ci fl h
    have hl := shpO_len h
    congr 2
    unfold fvs
    apply List.map_congr_left
    intro i hi
    have := List.mem_range.mp hi
    exact fv_cong (h1 i (by omega)) (h2 i (by omega)) _
  · rw [h3, h4]
/-- a field's new number -/
theorem wd_pS {ω : WT} {σ : St} {k ci i : Nat} {fl : List Nat} (h : shpO k = some (ci, fl)) (hi : fl[i]? = some 0) (v : Int32) : (wd ω σ).set k (ω.2.2.1 k, .inr (ci, (fvs ω σ k fl).set i (.int v))) = wd ω (pS σ (64 * k + i) v) := by
  have hl := shpO_len h
  have hil := (List.getElem?_eq_some_iff.mp hi).1
  refine wd_set _ ?_ (fun j hj => ce_cong (fun a ha => ?_) (fun _ _ => rfl) rfl rfl)
  · rw [ce_O h]
    congr 2
    apply List.ext_getElem?
    intro j
    by_cases hj : j = i
    · subst hj
      rw [List.getElem?_set_self (by rw [fvs_len]; exact hil), fvs_get hi]
      simp [fv, pS]
    · rw [List.getElem?_set_ne (Ne.symm hj)]
      by_cases hjl : j < fl.length
      · have e : fl[j]? = some fl[j] := List.getElem?_eq_getElem hjl
        rw [fvs_get e, fvs_get e]
        congr 1
        exact fv_cong (σ := σ) (σ' := pS σ (64 * k + i) v) (by simp [pS, hj]) rfl _
      · rw [List.getElem?_eq_none (by rw [fvs_len]; omega), List.getElem?_eq_none (by rw [fvs_len]; omega)]
  · simp only [pS]
    rw [if_neg (by omega)]
theorem wd_pL {ω : WT} {σ : St} {k ci i : Nat} {fl : List Nat} (h : shpO k = some (ci, fl)) (hi : fl[i]? = some 1) (v : Int64) : (wd ω σ).set k (ω.2.2.1 k, .inr (ci, (fvs ω σ k fl).set i (.long v))) = wd ω (pL σ (64 * k + i) v) := by
  have hl := shpO_len h
  have hil := (List.getElem?_eq_some_iff.mp hi).1
  refine wd_set _ ?_ (fun j hj => ce_cong (fun _ _ => rfl) (fun a ha => ?_) rfl rfl)
  · rw [ce_O h]
    congr 2
    apply List.ext_getElem?
    intro j
    by_cases hj : j = i
    · subst hj
      rw [List.getElem?_set_self (by rw [fvs_len]; exact hil), fvs_get hi]
      simp [fv, pL]
    · rw [List.getElem?_set_ne (Ne.symm hj)]
      by_cases hjl : j < fl.length
      · have e : fl[j]? = some fl[j] := List.getElem?_eq_getElem hjl
        rw [fvs_get e, fvs_get e]
        congr 1
        exact fv_cong (σ := σ) (σ' := pL σ (64 * k + i) v) rfl (by simp [pL, hj]) _
      · rw [List.getElem?_eq_none (by rw [fvs_len]; omega), List.getElem?_eq_none (by rw [fvs_len]; omega)]
  · simp only [pL]
    rw [if_neg (by omega)]
theorem wd_pF {ω : WT} {σ : St} {k n : Nat} (h : shpA k = some (0, n)) (f : Nat → Int32) : (wd ω σ).set k (ω.2.2.1 k, .inl (ω.2.1 0, n, .inl f)) = wd ω (pF σ k f) := by
  refine wd_set _ ?_ (fun j hj => ce_cong (fun _ _ => rfl) (fun _ _ => rfl) (by simp [pF, hj]) rfl)
  rw [ce_A0 h]
  simp [pF]
theorem wd_pZ {ω : WT} {σ : St} {k n : Nat} (h : shpA k = some (2, n)) (f : Nat → Int32) : (wd ω σ).set k (ω.2.2.1 k, .inl (ω.2.1 2, n, .inl f)) = wd ω (pF σ k f) := by
  refine wd_set _ ?_ (fun j hj => ce_cong (fun _ _ => rfl) (fun _ _ => rfl) (by simp [pF, hj]) rfl)
  rw [ce_A2 h]
  simp [pF]
theorem wd_pG {ω : WT} {σ : St} {k n : Nat} (h : shpA k = some (1, n)) (f : Nat → Int64) : (wd ω σ).set k (ω.2.2.1 k, .inl (ω.2.1 1, n, .inr (.inl f))) = wd ω (pG σ k f) := by
  refine wd_set _ ?_ (fun j hj => ce_cong (fun _ _ => rfl) (fun _ _ => rfl) rfl (by simp [pG, hj]))
  rw [ce_A1 h]
  simp [pG]
