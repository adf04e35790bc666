/-! ===== constructors: a world that grows ===== -/
abbrev GT : Type := va_G × (Nat → ClassId)
abbrev tysG (g : GT) : List (ClassId × FieldType) := [(g.2 0, .int), (g.2 1, .long), (g.2 2, .boolean), (g.2 3, .object "WonBySeats$Sheet")]
abbrev NT : Type := Program × Launch × Env × Room × State × MethodId × Array Value × List Frame × Method × Code × (State → Prop)
def VN (g : GT) (A : Nat → Prop) (ν : NT) (pc : Nat) (L : List (Nat × Value)) (S : List Value) (ws : va_W) (ce sl : Nat) : Prop := match ν with
  | (p, l, e, R, s, m, args, below, meth, c, Q) => ∀ (H : Heap) (locs : List Loc) (ls : Array Slot), va_S A s.heap H locs → va_P g.1 vwCl ws H → va_D A ws → lv_has ls c.maxLocals L → W p l e R s m args below meth c H locs ce sl Q (F0 m pc ls S)
def CN (g : GT) (A : Nat → Prop) (ν : NT) (l : Launch) (own : String) (cc : ByteArray) (nL d C0 S0 : Nat) : Prop := match ν with
  | (p, l', _, R, s, m, args, _, _, c, _) => p.tables.exec = Jvm.exec ∧ c.code = cc ∧ c.maxLocals = nL ∧ s.vm.findClass own = some m.cls ∧ (∀ w ∈ tbl, w.before args s = true) ∧ va_K g.1 vwCl (tysG g) s ∧ (∀ q, s.heap.size ≤ q → A q) ∧ l' = l ∧ d ≤ R.frames ∧ 40 * d ≤ R.locals ∧ C0 ≤ R.cells ∧ S0 ≤ R.slots
/-- the method is a constructor; its end -/
def NR (g : GT) (A : Nat → Prop) (ν : NT) (mc ms : Nat) (post : (Nat → Nat) → va_W) (X : State → Prop) : Prop := match ν with
  | (_, _, _, _, s, _, args, below, meth, _, Q) => meth.sig.returnType = none ∧ meth.locks = false ∧ meth.name = "<init>" ∧ X s ∧ Q = MQ below (va_Qv (fun _ : Nat → Nat => True) (fun u t => va_P g.1 vwCl (post u) t.heap ∧ va_D A (post u)) A) args s mc ms A
abbrev rmN (fr mc ms : Nat) : Room := { frames := fr, cells := mc, slots := ms, locals := 40 * fr }
def NI (g : GT) (l : Launch) (y : MethodName) (cc : ByteArray) (nL fr mc ms h0 : Nat) (e0 : va_E) (As : List Value) (X : State → Prop) (post : (Nat → Nat) → va_W) : Prop := ∀ sz : Nat,
  Met l y (.code y cc nL none :: tbl) (rmN fr mc ms) (va_Pc (.ref h0 :: As) (fun U => U.heap.size = sz ∧ va_P g.1 vwCl [(h0, e0)] U.heap ∧ va_K g.1 vwCl (tysG g) U ∧ X U)) (va_Qv (fun _ : Nat → Nat => True) (fun u t => va_P g.1 vwCl (post u) t.heap ∧ va_D (va_A [(h0, e0)] sz) (post u)) (va_A [(h0, e0)] sz)) mc ms (va_A [(h0, e0)] sz)
section NEWS
variable {g : GT} {A : Nat → Prop} {ν : NT} {l : Launch} {own : String} {cc : ByteArray} {nL d C0 S0 pc ce sl : Nat} {L L' : List (Nat × Value)} {S : List Value} {ws : va_W}
theorem N_aload_n {n : Fin 4} {i x : Nat} (j : Nat) (K : CN g A ν l own cc nL d C0 S0) (hd : decode cc pc = .ok (.aload_n n, 1)) (hi : (n : Nat) = i) (hj : L[j]? = some (i, .ref x)) (k : VN g A ν (pc + 1) L (.ref x :: S) ws ce sl) : VN g A ν pc L S ws ce sl := by
  obtain ⟨p, l', e, R, s, m, args, below, meth, c, Q⟩ := ν
  exact fun H locs ls hS hP hD hl => lv_aload_n K.1 K.2.1 hd hi (lv_at hl j hj) (k H locs ls hS hP hD hl)
theorem N_iload_n {n : Fin 4} {i : Nat} {x : Int32} (j : Nat) (K : CN g A ν l own cc nL d C0 S0) (hd : decode cc pc = .ok (.iload_n n, 1)) (hi : (n : Nat) = i) (hj : L[j]? = some (i, .int x)) (k : VN g A ν (pc + 1) L (.int x :: S) ws ce sl) : VN g A ν pc L S ws ce sl := by
  obtain ⟨p, l', e, R, s, m, args, below, meth, c, Q⟩ := ν
  exact fun H locs ls hS hP hD hl => lv_iload_n K.1 K.2.1 hd hi (lv_at hl j hj) (k H locs ls hS hP hD hl)
theorem N_iconst {n : Int} {v : Int32} (K : CN g A ν l own cc nL d C0 S0) (hd : decode cc pc = .ok (.iconst n, 1)) (hv : Int32.ofInt n = v) (k : VN g A ν (pc + 1) L (.int v :: S) ws ce sl) : VN g A ν pc L S ws ce sl := by
  obtain ⟨p, l', e, R, s, m, args, below, meth, c, Q⟩ := ν
  exact fun H locs ls hS hP hD hl => lv_iconst K.1 K.2.1 hd hv (k H locs ls hS hP hD hl)
theorem N_bipush {n : Int} {v : Int32} (K : CN g A ν l own cc nL d C0 S0) (hd : decode cc pc = .ok (.bipush n, 2)) (hv : (Int8.ofInt n).toInt32 = v) (k : VN g A ν (pc + 2) L (.int v :: S) ws ce sl) : VN g A ν pc L S ws ce sl := by
  obtain ⟨p, l', e, R, s, m, args, below, meth, c, Q⟩ := ν
  exact fun H locs ls hS hP hD hl => lv_bipush K.1 K.2.1 hd hv (k H locs ls hS hP hD hl)
theorem N_sipush {n : Int} {v : Int32} (K : CN g A ν l own cc nL d C0 S0) (hd : decode cc pc = .ok (.sipush n, 3)) (hv : (Int16.ofInt n).toInt32 = v) (k : VN g A ν (pc + 3) L (.int v :: S) ws ce sl) : VN g A ν pc L S ws ce sl := by
  obtain ⟨p, l', e, R, s, m, args, below, meth, c, Q⟩ := ν
  exact fun H locs ls hS hP hD hl => lv_sipush K.1 K.2.1 hd hv (k H locs ls hS hP hD hl)
theorem N_dup {x : Nat} (K : CN g A ν l own cc nL d C0 S0) (hd : decode cc pc = .ok (.dup, 1)) (k : VN g A ν (pc + 1) L (.ref x :: .ref x :: S) ws ce sl) : VN g A ν pc L (.ref x :: S) ws ce sl := by
  obtain ⟨p, l', e, R, s, m, args, below, meth, c, Q⟩ := ν
  exact fun H locs ls hS hP hD hl => lv_dup K.1 K.2.1 hd rfl (k H locs ls hS hP hD hl)
theorem N_goto {off : Int} {tgt : Nat} (K : CN g A ν l own cc nL d C0 S0) (hd : decode cc pc = .ok (.goto off, 3)) (ht : (pc : Int) + off = (tgt : Int)) (k : VN g A ν tgt L S ws ce sl) : VN g A ν pc L S ws ce sl := by
  obtain ⟨p, l', e, R, s, m, args, below, meth, c, Q⟩ := ν
  exact fun H locs ls hS hP hD hl => lv_goto K.1 K.2.1 hd ht (k H locs ls hS hP hD hl)
theorem N_icmp_ge {x y' : Int32} {off : Int} {tgt : Nat} (K : CN g A ν l own cc nL d C0 S0) (hd : decode cc pc = .ok (.if_icmp .ge off, 3)) (ht : (pc : Int) + off = (tgt : Int)) (kt : y' ≤ x → VN g A ν tgt L S ws ce sl) (kf : ¬ y' ≤ x → VN g A ν (pc + 3) L S ws ce sl) : VN g A ν pc L (.int y' :: .int x :: S) ws ce sl := by
  obtain ⟨p, l', e, R, s, m, args, below, meth, c, Q⟩ := ν
  exact fun H locs ls hS hP hD hl => lv_icmp_ge K.1 K.2.1 hd ht (fun z => kt z H locs ls hS hP hD hl) (fun z => kf z H locs ls hS hP hD hl)
theorem N_istore_n {n : Fin 4} {i : Nat} {x : Int32} (K : CN g A ν l own cc nL d C0 S0) (hd : decode cc pc = .ok (.istore_n n, 1)) (hi : (n : Nat) = i) (hn : i < nL) (hl : stL i (.int x) L = L') (k : VN g A ν (pc + 1) L' S ws ce sl) : VN g A ν pc L (.int x :: S) ws ce sl := by
  obtain ⟨p, l', e, R, s, m, args, below, meth, c, Q⟩ := ν
  exact fun H locs ls hS hP hD h2 => lv_istore_n K.1 K.2.1 hd hi h2 (by rw [K.2.2.1]; exact hn) rfl (fun ls h2 => k H locs ls hS hP hD (hl ▸ lvh_ins h2))
theorem N_astore_n {n : Fin 4} {i x : Nat} (K : CN g A ν l own cc nL d C0 S0) (hd : decode cc pc = .ok (.astore_n n, 1)) (hi : (n : Nat) = i) (hn : i < nL) (hl : stL i (.ref x) L = L') (k : VN g A ν (pc + 1) L' S ws ce sl) : VN g A ν pc L (.ref x :: S) ws ce sl := by
  obtain ⟨p, l', e, R, s, m, args, below, meth, c, Q⟩ := ν
  exact fun H locs ls hS hP hD h2 => lv_astore_n K.1 K.2.1 hd hi h2 (by rw [K.2.2.1]; exact hn) rfl (fun ls h2 => k H locs ls hS hP hD (hl ▸ lvh_ins h2))
theorem N_iinc {i : Nat} {n : Int} {x v : Int32} (j : Nat) (K : CN g A ν l own cc nL d C0 S0) (hd : decode cc pc = .ok (.iinc i n, 3)) (hj : L[j]? = some (i, .int x)) (hv : x + Int32.ofInt n = v) (hn : i < nL) (hl : stL i (.int v) L = L') (k : VN g A ν (pc + 3) L' S ws ce sl) : VN g A ν pc L S ws ce sl := by
  obtain ⟨p, l', e, R, s, m, args, below, meth, c, Q⟩ := ν
  exact fun H locs ls hS hP hD h2 => lv_iinc K.1 K.2.1 hd h2 hj hv (by rw [K.2.2.1]; exact hn) rfl (fun ls h2 => k H locs ls hS hP hD (hl ▸ lvh_ins h2))
theorem ob_1 : Cond.instanceMethod Lib.objectInit ∈ tbl := tbl_in 79 (by decide +kernel) rfl
theorem ob_2 : Cond.code Lib.objectInit ⟨#[0xb1]⟩ 1 none ∈ tbl := tbl_in 80 (by decide +kernel) rfl
theorem N_objInit {idx x : Nat} (K : CN g A ν l own cc nL d C0 S0) (hd : decode cc pc = .ok (.invokespecial idx, 3)) (hw : Cond.methodLink own idx Lib.objectInit ∈ tbl) (hS0 : (S.map fun v => v.category).sum ≤ 8) (hdd : 1 ≤ d) (k : VN g A ν (pc + 3) L S ws ce sl) : VN g A ν pc L (.ref x :: S) ws ce sl := by
  obtain ⟨p, l', e, R, s, m, args, below, meth, c, Q⟩ := ν
  obtain ⟨hx, hb, hml, hown, hts, hK, hA, rfl, hfr, hlo, hC, hSl⟩ := K
  exact fun H locs ls hS hP hD hl => W.objInit hx hb hown (hts _ hw) (hts _ ob_1) (hts _ ob_2) rfl (by exact hl.1) rfl hd (by omega) (by show 2 * 0 + _ + 12 ≤ R.locals; omega) (k H locs ls hS hP hD hl)
theorem clsI {s : State} {cA cB : ClassId} {tys : List (ClassId × FieldType)} {D : va_G} (h : va_K D vwCl tys s) {i j : Nat} {ty : FieldType} (hi : tys[i]? = some (cA, ty)) (hj : tys[j]? = some (cB, ty)) (hn : ∀ c, va_RA s c ty → ∃ nm, nm = "[" ++ ty.toString ∧ s.vm.findClass nm = some c) : cA = cB := by
  obtain ⟨nm, rfl, e1⟩ := hn cA (h.2 i _ hi).2
  obtain ⟨nm2, rfl, e2⟩ := hn cB (h.2 j _ hj).2
  exact Option.some.inj (e1.symm.trans e2)
theorem N_newI {n : Int32} {N : Nat} (K : CN g A ν l own cc nL d C0 S0) (hd : decode cc pc = .ok (.newarray .int, 2)) (hn : ¬ n < 0) (hN : n.toNatClampNeg = N) (hb8 : N * componentBytes .int ≤ 536870912) (hc : ce + 1 ≤ C0) (hs : sl + N ≤ S0) (k : ∀ q, VN g A ν (pc + 2) L (.ref q :: S) (ws ++ [(q, .inl (g.2 0, N, .inl (fun _ => 0)))]) (ce + 1) (sl + N)) : VN g A ν pc L (.int n :: S) ws ce sl := by
  obtain ⟨p, l', e, R, s, m, args, below, meth, c, Q⟩ := ν
  obtain ⟨hx, hb, hml, hown, hts, hK, hA, rfl, hfr, hlo, hC, hSl⟩ := K
  intro H locs ls hS hP hD hl
  refine va_newa (atype := .int) (ty := .int) (a0 := (N, .inl (fun _ => 0))) hx hb (hts (.arrayClass .int) (tbl_in 100 (by decide +kernel) rfl)) rfl hK hP hD hS hA (fun _ => rfl) hn hN hb8 (by omega) (by omega) hd (fun q cA H1 hK1 hP1 hD1 hS1 => ?_)
  have e : cA = g.2 0 := clsI hK1 (i := 4) (j := 0) rfl rfl (fun c h => ⟨_, rfl, h⟩)
  subst e
  exact k q H1 locs ls hS1 hP1 hD1 hl
theorem N_newJ {n : Int32} {N : Nat} (K : CN g A ν l own cc nL d C0 S0) (hd : decode cc pc = .ok (.newarray .long, 2)) (hn : ¬ n < 0) (hN : n.toNatClampNeg = N) (hb8 : N * componentBytes .long ≤ 536870912) (hc : ce + 1 ≤ C0) (hs : sl + N ≤ S0) (k : ∀ q, VN g A ν (pc + 2) L (.ref q :: S) (ws ++ [(q, .inl (g.2 1, N, .inr (.inl (fun _ => 0))))]) (ce + 1) (sl + N)) : VN g A ν pc L (.int n :: S) ws ce sl := by
  obtain ⟨p, l', e, R, s, m, args, below, meth, c, Q⟩ := ν
  obtain ⟨hx, hb, hml, hown, hts, hK, hA, rfl, hfr, hlo, hC, hSl⟩ := K
  intro H locs ls hS hP hD hl
  refine va_newa (atype := .long) (ty := .long) (a0 := (N, .inr (.inl (fun _ => 0)))) hx hb (hts (.arrayClass .long) (tbl_in 336 (by decide +kernel) rfl)) rfl hK hP hD hS hA (fun _ => rfl) hn hN hb8 (by omega) (by omega) hd (fun q cA H1 hK1 hP1 hD1 hS1 => ?_)
  have e : cA = g.2 1 := clsI hK1 (i := 4) (j := 1) rfl rfl (fun c h => ⟨_, rfl, h⟩)
  subst e
  exact k q H1 locs ls hS1 hP1 hD1 hl
theorem N_newZ {n : Int32} {N : Nat} (K : CN g A ν l own cc nL d C0 S0) (hd : decode cc pc = .ok (.newarray .boolean, 2)) (hn : ¬ n < 0) (hN : n.toNatClampNeg = N) (hb8 : N * componentBytes .boolean ≤ 536870912) (hc : ce + 1 ≤ C0) (hs : sl + N ≤ S0) (k : ∀ q, VN g A ν (pc + 2) L (.ref q :: S) (ws ++ [(q, .inl (g.2 2, N, .inl (fun _ => 0)))]) (ce + 1) (sl + N)) : VN g A ν pc L (.int n :: S) ws ce sl := by
  obtain ⟨p, l', e, R, s, m, args, below, meth, c, Q⟩ := ν
  obtain ⟨hx, hb, hml, hown, hts, hK, hA, rfl, hfr, hlo, hC, hSl⟩ := K
  intro H locs ls hS hP hD hl
  refine va_newa (atype := .boolean) (ty := .boolean) (a0 := (N, .inl (fun _ => 0))) hx hb (hts (.arrayClass .boolean) (tbl_in 911 (by decide +kernel) rfl)) rfl hK hP hD hS hA (fun _ => rfl) hn hN hb8 (by omega) (by omega) hd (fun q cA H1 hK1 hP1 hD1 hS1 => ?_)
  have e : cA = g.2 2 := clsI hK1 (i := 4) (j := 2) rfl rfl (fun c h => ⟨_, rfl, h⟩)
  subst e
  exact k q H1 locs ls hS1 hP1 hD1 hl
/-- an array of sheets -/
def aoS (ν : NT) : Prop := match ν with
  | (_, _, _, _, s, _, _, _, _, _, _) => va_AO "WonBySeats$Sheet" s
theorem N_newS {idx : Nat} {n : Int32} {N : Nat} (K : CN g A ν l own cc nL d C0 S0) (hO : aoS ν) (hd : decode cc pc = .ok (.anewarray idx, 3)) (hw : Cond.classLink own idx "WonBySeats$Sheet" ∈ tbl) (hn : ¬ n < 0) (hN : n.toNatClampNeg = N) (hb8 : N * 4 ≤ 536870912) (hc : ce + 1 ≤ C0) (hs : sl + N ≤ S0) (k : ∀ q, VN g A ν (pc + 3) L (.ref q :: S) (ws ++ [(q, .inl (g.2 3, N, .inr (.inr (.inr (.inr (fun _ => none))))))]) (ce + 1) (sl + N)) : VN g A ν pc L (.int n :: S) ws ce sl := by
  obtain ⟨p, l', e, R, s, m, args, below, meth, c, Q⟩ := ν
  obtain ⟨hx, hb, hml, hown, hts, hK, hA, rfl, hfr, hlo, hC, hSl⟩ := K
  intro H locs ls hS hP hD hl
  refine va_newq hx hb hown (hts _ hw) hO hK hP hD hS hA hn hN hb8 (by omega) (by omega) hd (fun q cA H1 hK1 hP1 hD1 hS1 => ?_)
  have e : cA = g.2 3 := clsI hK1 (i := 4) (j := 3) rfl rfl (fun c h => ⟨_, rfl, va_nmO h rfl⟩)
  subst e
  exact k q H1 locs ls hS1 hP1 hD1 hl
theorem N_new {idx ci N : Nat} {C : String} {T : u_T} {ty : Nat → FieldType} {fs : List Value} (K : CN g A ν l own cc nL d C0 S0) (hd : decode cc pc = .ok (.new idx, 3)) (hin : ∀ w ∈ u_ws C T N, w ∈ tbl) (hty : ∀ k, k < N → parseFieldDescriptor (T k).2.2.1 = some (ty k)) (hw : Cond.classLink own idx C ∈ tbl) (hi : Cond.instantiable C N ∈ tbl) (hini : Cond.initialized C ∈ tbl) (hc : vwCl[ci]? = some (C, T, N)) (hfs : ∀ j, j < N → defaultValue (ty j) = vp_V fs j) (hce : ce + 1 ≤ C0) (hsl : sl + N ≤ S0) (k : ∀ q, VN g A ν (pc + 3) L (.ref q :: S) (ws ++ [(q, .inr (ci, fs))]) (ce + 1) (sl + N)) : VN g A ν pc L S ws ce sl := by
  obtain ⟨p, l', e, R, s, m, args, below, meth, c, Q⟩ := ν
  obtain ⟨hx, hb, hml, hown, hts, hK, hA, rfl, hfr, hlo, hC, hSl⟩ := K
  intro H locs ls hS hP hD hl
  exact va_new hx hb hts hin ty hty hown (hts _ hw) (hts _ hi) (hts _ hini) hK hP hD hS hA hc hfs (by omega) (by omega) hd (fun q H1 hP1 hD1 hS1 => k q H1 locs ls hS1 hP1 hD1 hl)
theorem N_get {idx ci N i a : Nat} {C : String} {T : u_T} {fs : List Value} {v : Value} (q0 : Nat) (K : CN g A ν l own cc nL d C0 S0) (hd : decode cc pc = .ok (.getfield idx, 3)) (he : ws[q0]? = some (a, .inr (ci, fs))) (hc : vwCl[ci]? = some (C, T, N)) (hw : FW own idx C T N i) (hv : fs[i]? = some v) (k : VN g A ν (pc + 3) L (v :: S) ws ce sl) : VN g A ν pc L (.ref a :: S) ws ce sl := by
  obtain ⟨p, l', e, R, s, m, args, below, meth, c, Q⟩ := ν
  obtain ⟨hx, hb, hml, hown, hts, hK, hA, rfl, hfr, hlo, hC, hSl⟩ := K
  exact fun H locs ls hS hP hD hl => va_get hx hb hts hw.1 hown hK hP q0 he hc i hw.2.1 (hts _ hw.2.2.1) (by rw [hw.2.2.2]; exact fun _ h => h) hv hd (k H locs ls hS hP hD hl)
theorem N_putF {idx ci N i a mc ms : Nat} {C : String} {T : u_T} {ty : Nat → FieldType} {fs : List Value} {v : Value} {post : (Nat → Nat) → va_W} {X : State → Prop} (q0 : Nat) (K : CN g A ν l own cc nL d C0 S0) (hR : NR g A ν mc ms post X) (hd : decode cc pc = .ok (.putfield idx, 3)) (he : ws[q0]? = some (a, .inr (ci, fs))) (hc : vwCl[ci]? = some (C, T, N)) (hw : FW own idx C T N i) (hty : ∀ k, k < N → parseFieldDescriptor (T k).2.2.1 = some (ty k)) (hnm : ∀ a, a < N → ∀ b, b < N → a ≠ b → (T a).2.1 ≠ (T b).2.1) (hfin : (T i).2.2.2 = true) (hdecl : (T i).1 = own) (hn : narrow (ty i) v = v) (hfit : fits (ty i) v = true) (hl0 : i < fs.length) (k : VN g A ν (pc + 3) L S (ws.set q0 (a, .inr (ci, fs.set i v))) ce sl) : VN g A ν pc L (v :: .ref a :: S) ws ce sl := by
  obtain ⟨p, l', e, R, s, m, args, below, meth, c, Q⟩ := ν
  obtain ⟨hx, hb, hml, hown, hts, hK, hA, rfl, hfr, hlo, hC, hSl⟩ := K
  exact fun H locs ls hS hP hD hl => va_putF hx hb hts hw.1 ty hty hnm hown hK hP hD hS q0 he hc i hw.2.1 (hts _ hw.2.2.1) (by rw [hw.2.2.2]; exact fun _ h => h) hfin hR.2.2.1 hdecl (hty i hw.2.1) hn hfit hl0 hd (fun H1 locs1 h1 h2 h3 => k H1 locs1 ls h3 h1 h2 hl)
theorem N_put {idx ci N i a : Nat} {C : String} {T : u_T} {ty : Nat → FieldType} {fs : List Value} {v : Value} (q0 : Nat) (K : CN g A ν l own cc nL d C0 S0) (hd : decode cc pc = .ok (.putfield idx, 3)) (he : ws[q0]? = some (a, .inr (ci, fs))) (hc : vwCl[ci]? = some (C, T, N)) (hw : FW own idx C T N i) (hp : PW C T N i ty) (hn : narrow (ty i) v = v) (hfit : fits (ty i) v = true) (hl0 : i < fs.length) (k : VN g A ν (pc + 3) L S (ws.set q0 (a, .inr (ci, fs.set i v))) ce sl) : VN g A ν pc L (v :: .ref a :: S) ws ce sl := by
  obtain ⟨p, l', e, R, s, m, args, below, meth, c, Q⟩ := ν
  obtain ⟨hx, hb, hml, hown, hts, hK, hA, rfl, hfr, hlo, hC, hSl⟩ := K
  exact fun H locs ls hS hP hD hl => va_put hx hb hts hw.1 ty hp.1 hp.2.1 hown hK hP hD hS q0 he hc i hw.2.1 (hts _ hw.2.2.1) (by rw [hw.2.2.2]; exact fun _ h => h) hp.2.2 (hp.1 i hw.2.1) hn hfit hl0 hd (fun H1 locs1 h1 h2 h3 => k H1 locs1 ls h3 h1 h2 hl)
theorem N_iast {a n : Nat} {f : Nat → Int32} {i x : Int32} (q0 : Nat) (K : CN g A ν l own cc nL d C0 S0) (hd : decode cc pc = .ok (.iastore, 1)) (he : ws[q0]? = some (a, .inl (g.2 0, n, .inl f))) (hin : vp_in i n) (k : VN g A ν (pc + 1) L S (ws.set q0 (a, .inl (g.2 0, n, .inl (upd f i.toNatClampNeg x)))) ce sl) : VN g A ν pc L (.int x :: .int i :: .ref a :: S) ws ce sl := by
  obtain ⟨p, l', e, R, s, m, args, below, meth, c, Q⟩ := ν
  obtain ⟨hx, hb, hml, hown, hts, hK, hA, rfl, hfr, hlo, hC, hSl⟩ := K
  exact fun H locs ls hS hP hD hl => va_iast hx hb hK hP hD hS q0 0 he rfl hin hd (fun H1 locs1 h1 h2 h3 => k H1 locs1 ls h3 h1 h2 hl)
theorem N_astq {a n v : Nat} {vs : List Value} {f : Nat → Option Nat} {i : Int32} (q0 qk : Nat) (K : CN g A ν l own cc nL d C0 S0) (hd : decode cc pc = .ok (.aastore, 1)) (he : ws[q0]? = some (a, .inl (g.2 3, n, .inr (.inr (.inr (.inr f)))))) (hv : ws[qk]? = some (v, .inr (6, vs))) (hin : vp_in i n) (k : VN g A ν (pc + 1) L S (ws.set q0 (a, .inl (g.2 3, n, .inr (.inr (.inr (.inr (va_up f i.toNatClampNeg (some v)))))))) ce sl) : VN g A ν pc L (.ref v :: .int i :: .ref a :: S) ws ce sl := by
  obtain ⟨p, l', e, R, s, m, args, below, meth, c, Q⟩ := ν
  obtain ⟨hx, hb, hml, hown, hts, hK, hA, rfl, hfr, hlo, hC, hSl⟩ := K
  exact fun H locs ls hS hP hD hl => va_astq (r := (RX6, TX6, 3)) hx hb hK hP hD hS q0 3 qk 6 he rfl hv rfl hin hd (fun H1 locs1 h1 h2 h3 => k H1 locs1 ls h3 h1 h2 hl)
theorem N_vret {mc ms : Nat} {post : (Nat → Nat) → va_W} {X : State → Prop} (u : Nat → Nat) (is : List Nat) (K : CN g A ν l own cc nL d C0 S0) (hR : NR g A ν mc ms post X) (hd : decode cc pc = .ok (.return_, 1)) (hn : va_nd is = true) (h1 : is.filterMap (fun i => ws[i]?) = post u) (h2 : is.map (fun i => ws[i]?) = (post u).map some) : VN g A ν pc L [] ws mc ms := by
  obtain ⟨p, l', e, R, s, m, args, below, meth, c, Q⟩ := ν
  obtain ⟨hx, hb, hml, hown, hts, hK, hA, rfl, hfr, hlo, hC, hSl⟩ := K
  obtain ⟨hr, hlk, -, -, rfl⟩ := hR
  exact fun H locs ls hS hP hD hl => W.vret hx hb hr (fun t ht hW => ⟨⟨u, rfl, trivial, by rw [ht]; exact hP.sub is h1, hD.sub is hn h2⟩, hS.F ht⟩) hS.2.2 hd hlk
/-- words of a constructor's call -/
abbrev KW (y : MethodName) (cc : ByteArray) (nL n : Nat) : Prop := Cond.initialized y.cls ∈ tbl ∧ Cond.code y cc nL none ∈ tbl ∧ Cond.instanceMethod y ∈ tbl ∧ y.name = "<init>" ∧ (y.cls ≠ "java/lang/invoke/MethodHandle" ∧ y.cls ≠ "java/lang/invoke/VarHandle" ∧ (parseMethodDescriptor y.desc).map (fun d => d.parameters.length) = some n) ∧ nL ≤ 21
theorem goodC {y : MethodName} {cc : ByteArray} {nL : Nat} (h : Cond.code y cc nL none ∈ tbl) : GoodIn tbl (.code y cc nL none :: tbl) := fun w hw => by
  rcases List.mem_cons.mp hw with rfl | hw
  · exact tbl_good _ h
  · exact tbl_good _ hw
/-- the callee's premise of states, at every state that the caller may be in -/
def hasX (ν : NT) (X : State → Prop) : Prop := match ν with
  | (_, _, _, _, s, _, _, _, _, _, _) => ∀ U : State, s.WarmedH U.vm → X U
abbrev blX (X : State → Prop) : Prop := ∀ (a : Array Value) (U : State) (f : JFrame) (mk : MethodId), X U → X (U.calling f mk a)
theorem N_join {p : Program} {e : Env} {R : Room} {s : State} {m : MethodId} {args : Array Value} {below : List Frame} {meth : Method} {c : Code} {Q : State → Prop} {l' : Launch} {H : Heap} {locs : List Loc} {ls : Array Slot} {mc ms h0 qi : Nat} {e0 : va_E} {rest : List Value} {st0 : List Value} {wr : va_W} {isR : List Nat} {post : (Nat → Nat) → va_W} {av : Array Value}
    (hr : va_Run p l' e R s m args below meth c H locs ce sl mc ms (F0 m pc ls st0) rest (va_Qv (fun _ : Nat → Nat => True) (fun u t => va_P g.1 vwCl (post u) t.heap ∧ va_D (va_A [(h0, e0)] H.size) (post u)) (va_A [(h0, e0)] H.size) av) (va_A [(h0, e0)] H.size))
    (hS : va_S A s.heap H locs) (hP : va_P g.1 vwCl ws H) (hD : va_D A ws) (hl : lv_has ls c.maxLocals L) (hA : ∀ q, s.heap.size ≤ q → A q) (hqi : ws[qi]? = some (h0, e0)) (hRr : isR.map (fun i => ws[i]?) = wr.map some) (hn : va_nd isR = true) (hdis : ∀ i ∈ isR, i ∉ [qi])
    (kk : ∀ u, VN g A (p, l', e, R, s, m, args, below, meth, c, Q) (pc + 3) L rest (wr ++ post u) (ce + mc) (sl + ms)) : W p l' e R s m args below meth c H locs ce sl Q (F0 m pc ls st0) := by
  have hC : [qi].map (fun i => ws[i]?) = [(h0, e0)].map some := by simp [hqi]
  have hFc := va_free (wc := [(h0, e0)]) hD hS hA [qi] hC
  refine va_callv hr hS (fun q _ h => hFc q h) hFc (fun u t H1 locs1 ht hvm hw hB hz1 hk1 hS1 => ?_)
  obtain ⟨hP1, hD1⟩ := hB
  rw [ht] at hP1
  obtain ⟨hP2, hD2⟩ := va_join (wr := wr) (w1 := post u) hP hD [qi] isR hC hRr hn hdis hk1 hFc hP1 hD1
  exact kk u H1 locs1 ls hS1 hP2 hD2 hl
theorem ni_pre {s : State} {H : Heap} {h0 : Nat} {e0 : va_E} {As : List Value} {X : State → Prop} (hb : blX X) (hX : ∀ U : State, s.WarmedH U.vm → X U) (hPc : va_P g.1 vwCl [(h0, e0)] H) (hK : va_K g.1 vwCl (tysG g) s) : PreS s H (va_Pc (.ref h0 :: As) (fun U => U.heap.size = H.size ∧ va_P g.1 vwCl [(h0, e0)] U.heap ∧ va_K g.1 vwCl (tysG g) U ∧ X U)) (.ref h0 :: As) :=
  ⟨fun a U f mk q => ⟨q.1, q.2.1, q.2.2.1, va_K.moved (u := U) (U := U.calling f mk a) (Vm.Alike.refl U.vm) q.2.2.2.1, hb a U f mk q.2.2.2.2⟩, fun U hU hW => ⟨rfl, by rw [hU], by rw [hU]; exact hPc, va_K.moved hW.alike hK, hX U hW⟩⟩
theorem N_call {idx n nL' fr mc ms h0 qi : Nat} {e0 : va_E} {y : MethodName} {cc' : ByteArray} {As rest : List Value} {X : State → Prop} {post : (Nat → Nat) → va_W} {wr : va_W} {isR : List Nat} (K : CN g A ν l own cc nL d C0 S0) (hd : decode cc pc = .ok (.invokespecial idx, 3)) (hlk : Cond.methodLink own idx y ∈ tbl) (hw : KW y cc' nL' n) (hM : NI g l y cc' nL' fr mc ms h0 e0 As X post) (hbl : blX X) (hX : hasX ν X) (hn0 : As.length = n) (hst : S = As.reverse ++ .ref h0 :: rest) (hW : (rest.map fun v => v.category).sum ≤ 8) (hqi : ws[qi]? = some (h0, e0)) (hRr : isR.map (fun i => ws[i]?) = wr.map some) (hn : va_nd isR = true) (hdis : ∀ i ∈ isR, i ∉ [qi]) (hfr : fr + 1 ≤ d) (hce : ce + mc ≤ C0) (hsl : sl + ms ≤ S0)
    (kk : ∀ u, VN g A ν (pc + 3) L rest (wr ++ post u) (ce + mc) (sl + ms)) : VN g A ν pc L S ws ce sl := by
  obtain ⟨p, l', e, R, s, m, args, below, meth, c, Q⟩ := ν
  obtain ⟨hx, hb, hml, hown, hts, hK, hA, rfl, hf, hlo, hC, hSl⟩ := K
  obtain ⟨k1, k2, k3, k4, k5, k6⟩ := hw
  intro H locs ls hS hP hD hl
  have hPc : va_P g.1 vwCl [(h0, e0)] H := hP.sub [qi] (by simp [hqi])
  refine N_join (va_runI (As := As) (rest := rest) ⟨hx, hb, hml, hown, hts⟩ (hM H.size) (cwI n hts (goodC k2) rfl rfl rfl (hts _ k1) (hts _ hlk) (hts _ k3) k4 k5 ⟨by show fr + 1 ≤ R.frames; omega, by show 8 + (nL' + 11) + 40 * fr ≤ R.locals; omega⟩) (ni_pre hbl hX hPc hK) rfl hn0 (by rw [← hml]; exact hl.1) hst (lv_room hW) hd ⟨by omega, by omega⟩) hS hP hD hl hA hqi hRr hn hdis kk
/-- a nest mate's constructor -/
def nwX (ν : NT) (w : Cond) : Prop := match ν with
  | (_, _, _, _, s, _, _, _, _, _, _) => va_Nw w s
theorem N_callN {host : String} {idx n nL' fr mc ms h0 qi : Nat} {e0 : va_E} {y : MethodName} {cc' : ByteArray} {As rest : List Value} {X : State → Prop} {post : (Nat → Nat) → va_W} {wr : va_W} {isR : List Nat} (K : CN g A ν l own cc nL d C0 S0) (hd : decode cc pc = .ok (.invokespecial idx, 3)) (hlk : nwX ν (.methodLinkNest own idx y host)) (hw : KW y cc' nL' n) (hM : NI g l y cc' nL' fr mc ms h0 e0 As X post) (hbl : blX X) (hX : hasX ν X) (hn0 : As.length = n) (hst : S = As.reverse ++ .ref h0 :: rest) (hW : (rest.map fun v => v.category).sum ≤ 8) (hqi : ws[qi]? = some (h0, e0)) (hRr : isR.map (fun i => ws[i]?) = wr.map some) (hn : va_nd isR = true) (hdis : ∀ i ∈ isR, i ∉ [qi]) (hfr : fr + 1 ≤ d) (hce : ce + mc ≤ C0) (hsl : sl + ms ≤ S0)
    (kk : ∀ u, VN g A ν (pc + 3) L rest (wr ++ post u) (ce + mc) (sl + ms)) : VN g A ν pc L S ws ce sl := by
  obtain ⟨p, l', e, R, s, m, args, below, meth, c, Q⟩ := ν
  obtain ⟨hx, hb, hml, hown, hts, hK, hA, rfl, hf, hlo, hC, hSl⟩ := K
  obtain ⟨k1, k2, k3, k4, k5, k6⟩ := hw
  intro H locs ls hS hP hD hl
  have hPc : va_P g.1 vwCl [(h0, e0)] H := hP.sub [qi] (by simp [hqi])
  refine N_join (va_runIN (As := As) (rest := rest) ⟨hx, hb, hml, hown, hts⟩ (hM H.size) ⟨va_cnB n hts (goodC k2) rfl rfl rfl hlk (hts _ k1) k5 ⟨by show fr + 1 ≤ R.frames; omega, by show 8 + (nL' + 11) + 40 * fr ≤ R.locals; omega⟩, k4, hts _ k3⟩ (ni_pre hbl hX hPc hK) rfl hn0 (by rw [← hml]; exact hl.1) hst (lv_room hW) hd ⟨by omega, by omega⟩) hS hP hD hl hA hqi hRr hn hdis kk
/-- a constructor's contract out of a walk -/
theorem NI.of {y : MethodName} {fr mc ms h0 : Nat} {e0 : va_E} {As : List Value} {X : State → Prop} {post : (Nat → Nat) → va_W} (hy : plainName y.cls = true) (hyn : y.name = "<init>") (hlen : (lg_sl (.ref h0 :: As)).length ≤ nL) (body : ∀ A ν, CN g A ν l y.cls cc nL fr mc ms → NR g A ν mc ms post X → VN g A ν 0 (lv_args 0 (.ref h0 :: As)) [] [(h0, e0)] 0 0) : NI g l y cc nL fr mc ms h0 e0 As X post := by
  intro sz
  refine Met.ofW (cc := cc) (maxL := nL) (ret := none) hy rfl ?_
  intro p e s m args below meth c s₁ B hml hv
  obtain ⟨rfl, hsz, hP, hK, hX⟩ := hv
  subst hsz
  have hts := atoms_spec (ws := .code y cc nL none :: tbl) B.pre
  have hown : s.vm.findClass y.cls = some m.cls := findClass_of_methodNamed B.named
  have hl := lv_entry (.ref h0 :: As) (n := nL) hlen
  rw [lg_entry_eq]
  have hD : va_D (va_A [(h0, e0)] s.heap.size) [(h0, e0)] := by
    refine ⟨fun i j p q hi hj _ => ?_, fun k q hk => Or.inl ⟨k, q.2, hk⟩⟩
    have hi0 := (List.getElem?_eq_some_iff.mp hi).1
    have hj0 := (List.getElem?_eq_some_iff.mp hj).1
    simp at hi0 hj0
    omega
  exact body (va_A [(h0, e0)] s.heap.size) (p, l, e, rmN fr mc ms, s, m, _, below, meth, c, MQ below _ _ s mc ms _)
    ⟨B.exec, B.bytes, hml, hown, fun w hw => hts w (List.mem_cons_of_mem _ hw), hK, fun q h => Or.inr h, rfl, Nat.le_refl _, Nat.le_refl _, Nat.le_refl _, Nat.le_refl _⟩ ⟨B.returns, B.notSynchronized, (name_of_methodNamed B.named B.method).1.trans hyn, hX, rfl⟩ s.heap [] _ va_S.rf hP hD (by rw [hml]; exact hl)
end NEWS
