/-! ===== small rows that the printed regions use ===== -/
theorem Cx.wf {ω : WT} {κ : KT} {l : Launch} {y : MethodName} {cc : ByteArray} {nL d : Nat} (K : Cx ω κ l y cc nL d) : Wf ω := by
  obtain ⟨p, l', e, R, s, m, args, below, meth, c, cells, slots, Q⟩ := κ
  exact K.2.2.2.2.2.2.1
theorem V_join {ω : WT} {κ : KT} {pc J : Nat} {L : List (Nat × Value)} {S S0 : List Value} {σ : St} {v : Value} (h : V ω κ J L (v :: S) σ → V ω κ pc L S0 σ) (k : V ω κ J L (v :: S) σ) : V ω κ pc L S0 σ := h k
theorem V_top {ω : WT} {κ : KT} {pc : Nat} {L : List (Nat × Value)} {S : List Value} {σ : St} {v v' : Int32} (h : v = v') (k : V ω κ pc L (.int v :: S) σ) : V ω κ pc L (.int v' :: S) σ := h ▸ k
theorem V_topJ {ω : WT} {κ : KT} {pc : Nat} {L : List (Nat × Value)} {S : List Value} {σ : St} {v v' : Int64} (h : v = v') (k : V ω κ pc L (.long v :: S) σ) : V ω κ pc L (.long v' :: S) σ := h ▸ k
theorem narZ {v : Int32} (h : v = 0 ∨ v = 1) : narrow .boolean (.int v) = .int v := by rcases h with rfl | rfl <;> rfl
theorem narZ2 {v : Int32} (h : v = 0 ∨ v = 1) : vp_nar .boolean v = v := by rcases h with rfl | rfl <;> rfl
theorem fitZ {v : Int32} (h : v = 0 ∨ v = 1) : fits .boolean (.int v) = true := by rcases h with rfl | rfl <;> rfl
theorem shO (j : Nat) (h : j < 4) : shpO (2 + j) = some (6, [(6 + j) + 2, 0, 0]) := by
  match j, h with
  | 0, _ => rfl
  | 1, _ => rfl
  | 2, _ => rfl
  | 3, _ => rfl
theorem shA (j : Nat) (h : j < 4) : shpA (6 + j) = some (0, 80) := by
  match j, h with
  | 0, _ => rfl
  | 1, _ => rfl
  | 2, _ => rfl
  | 3, _ => rfl
/-- the same for a method of the JDK -/
theorem Met.ofWF {l : Launch} {y : MethodName} {ws ws' : List Cond} {rm : Room} {Pc : Array Value → State → Prop} {Qc : Array Value → State → Outcome → State → Prop} {mc ms : Nat} {free : Addr → Prop} {cc : ByteArray} {maxL : Nat} {ret : Option FieldType}
    (hy : plainFor y = true) (hw : ws = Cond.code y cc maxL ret :: ws')
    (body : ∀ p e s m args below meth c s₁, BodyLoose p l y (headSpec ws rm) cc maxL ret e s m args below meth c s₁ → c.maxLocals = maxL → Pc args s →
      W p l e (headSpec ws rm).room s m args below meth c s.heap [] 0 0 (MQ below Qc args s mc ms free) (entryFrame m args maxL)) : Met l y ws rm Pc Qc mc ms free := by
  refine MetFree.of_bodySF (code := cc) (maxLocals := maxL) (ret := ret) hy ?_ ?_
  · intro args s m h hn
    obtain ⟨meth, c, h1, h2, h3, h4, h5, h6, -, -⟩ := Cond.code_spec hn (atoms_spec (ws := ws) h _ (by rw [hw]; exact List.mem_cons_self))
    exact ⟨meth, c, h1, h2, h3, h4, h5, h6⟩
  · intro p e s m args below meth c s₁ B hml hP _
    have hh0 : s₁.heap = s.heap := by rw [B.state]; rfl
    obtain ⟨t, a1, o, b1, b2, b3⟩ := body p e s m args below meth c s₁ B hml hP s₁ hh0 (Stand.of_body B)
    exact ⟨t, o, a1, b1, b2, ⟨b3.1, b3.2⟩⟩
theorem Sp.ofF {ω : WT} {l : Launch} {y : MethodName} {cc : ByteArray} {nL d : Nat} {σ : St} {ret : Option FieldType} {post : Option Value → St → Prop} {as : List Value} (hy : plainFor y = true) (hlen : (lg_sl as).length ≤ nL) (hWf : Wf ω) (body : ∀ κ, Cm ω κ l y cc nL d ret post → V ω κ 0 (lv_args 0 as) [] σ) : Sp ω l y cc nL ret d as σ post := by
  refine Met.ofWF (cc := cc) (maxL := nL) (ret := ret) hy rfl ?_
  intro p e s m args below meth c s₁ B hml hv
  obtain ⟨rfl, hH, hK, hSt⟩ := hv
  have hts := atoms_spec (ws := .code y cc nL ret :: tbl) B.pre
  have hown : s.vm.findClass y.cls = some m.cls := findClass_of_methodNamed B.named
  have hl := lv_entry as (n := nL) hlen
  rw [lg_entry_eq]
  exact body (p, l, e, rmD d, s, m, as.toArray, below, meth, c, 0, 0, MQ below (QM ω post) as.toArray s 0 0 (wA ω))
    ⟨⟨B.exec, B.bytes, hml, hown, fun w hw => hts w (List.mem_cons_of_mem _ hw), hK, hWf, hSt, rfl, Nat.le_refl _, Nat.le_refl _, Nat.le_refl _, Nat.le_refl _⟩, B.returns, B.notSynchronized, rfl⟩
    s.heap [] _ va_S.rf hH (by rw [hml]; exact hl)
theorem plJ_max : plainFor yJ9_max_7cf53 = true := by decide +kernel
theorem plJ_min : plainFor yJ9_min_7cf53 = true := by decide +kernel
theorem plJ_bits : plainFor yJ6_bitCount_0f7a4 = true := by decide +kernel
theorem plJ_fill : plainFor yJ7_fill_53178 = true := by decide +kernel
theorem plJ_fillL : plainFor yJ7_fill_d0a16 = true := by decide +kernel
