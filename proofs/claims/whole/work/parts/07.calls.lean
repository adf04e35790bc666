/-! ===== the rows of V: returns, calls; a contract out of a walk ===== -/
theorem Stt.moved {ω : WT} {u U : State} {H : Heap} (hvm : u.vm.Alike U.vm) (h : Stt ω u H) : Stt ω U H := ⟨h.1.moved hvm, h.2.moved hvm⟩
theorem PB.blind {ω : WT} {σ : St} {as : List Value} : FrameBlind (va_Pc as (PB ω σ)) := fun a U g mk h => ⟨h.1, h.2.1, va_K.moved (u := U) (U := U.calling g mk a) (Vm.Alike.refl U.vm) h.2.2.1, h.2.2.2.moved (u := U) (U := U.calling g mk a) (Vm.Alike.refl U.vm)⟩
section RULES3
variable {ω : WT} {κ : KT} {l : Launch} {y : MethodName} {cc : ByteArray} {nL d pc : Nat} {L L' : List (Nat × Value)} {S : List Value} {σ : St} {ret : Option FieldType} {post : Option Value → St → Prop}
theorem Sp.of {as : List Value} (hy : plainName y.cls = true) (hlen : (lg_sl as).length ≤ nL) (hWf : Wf ω) (body : ∀ κ, Cm ω κ l y cc nL d ret post → V ω κ 0 (lv_args 0 as) [] σ) : Sp ω l y cc nL ret d as σ post := by
  refine Met.ofW (cc := cc) (maxL := nL) (ret := ret) hy rfl ?_
  intro p e s m args below meth c s₁ B hml hv
  obtain ⟨rfl, hH, hK, hSt⟩ := hv
  have hts := atoms_spec (ws := .code y cc nL ret :: tbl) B.pre
  have hown : s.vm.findClass y.cls = some m.cls := findClass_of_methodNamed B.named
  have hl := lv_entry as (n := nL) hlen
  rw [lg_entry_eq]
  exact body (p, l, e, rmD d, s, m, as.toArray, below, meth, c, 0, 0, MQ below (QM ω post) as.toArray s 0 0 (wA ω))
    ⟨⟨B.exec, B.bytes, hml, hown, fun w hw => hts w (List.mem_cons_of_mem _ hw), hK, hWf, hSt, rfl, Nat.le_refl _, Nat.le_refl _, Nat.le_refl _, Nat.le_refl _⟩, B.returns, B.notSynchronized, rfl⟩
    s.heap [] _ va_S.rf hH (by rw [hml]; exact hl)
theorem Sp.imp {as : List Value} {post' : Option Value → St → Prop} (h : Sp ω l y cc nL ret d as σ post) (hi : ∀ v σ', post v σ' → post' v σ') : Sp ω l y cc nL ret d as σ post' := by
  intro p e hp h1 h2 s m args below h3 h4 h5 h6
  obtain ⟨k, o, a1, a2, a3, ⟨⟨v, σ', b1, b2, b3⟩, b4⟩, a5⟩ := h p e hp h1 h2 s m args below h3 h4 h5 h6
  exact ⟨k, o, a1, a2, a3, ⟨⟨v, σ', b1, hi v σ' b2, b3⟩, b4⟩, a5⟩
theorem V_iret {v : Int32} (K : Cm ω κ l y cc nL d (some .int) post) (hd : decode cc pc = .ok (.ireturn, 1)) (h : post (some (.int v)) σ) : V ω κ pc L [.int v] σ := by
  obtain ⟨p, l', e, R, s, m, args, below, meth, cd, cells, slots, Q⟩ := κ
  obtain ⟨⟨hx, hb, -⟩, hr, hlk, rfl⟩ := K
  exact fun H locs ls hS hH hl => W.iret hx hb hr (fun t ht hW => ⟨⟨_, σ, rfl, h, by rw [ht]; exact hH⟩, hS.F ht⟩) hS.2.2 hd hlk
theorem V_zret {v : Int32} (K : Cm ω κ l y cc nL d (some .boolean) post) (hd : decode cc pc = .ok (.ireturn, 1)) (hz : v = 0 ∨ v = 1) (h : post (some (.int v)) σ) : V ω κ pc L [.int v] σ := by
  obtain ⟨p, l', e, R, s, m, args, below, meth, cd, cells, slots, Q⟩ := κ
  obtain ⟨⟨hx, hb, -⟩, hr, hlk, rfl⟩ := K
  exact fun H locs ls hS hH hl => W.zret hx hb hr (by rcases hz with rfl | rfl <;> rfl) (fun t ht hW => ⟨⟨_, σ, rfl, h, by rw [ht]; exact hH⟩, hS.F ht⟩) hS.2.2 hd hlk
theorem V_lret {v : Int64} (K : Cm ω κ l y cc nL d (some .long) post) (hd : decode cc pc = .ok (.lreturn, 1)) (h : post (some (.long v)) σ) : V ω κ pc L [.long v] σ := by
  obtain ⟨p, l', e, R, s, m, args, below, meth, cd, cells, slots, Q⟩ := κ
  obtain ⟨⟨hx, hb, -⟩, hr, hlk, rfl⟩ := K
  exact fun H locs ls hS hH hl => W.lret hx hb hr (fun t ht hW => ⟨⟨_, σ, rfl, h, by rw [ht]; exact hH⟩, hS.F ht⟩) hS.2.2 hd hlk
theorem V_vret (K : Cm ω κ l y cc nL d none post) (hd : decode cc pc = .ok (.return_, 1)) (h : post none σ) : V ω κ pc L [] σ := by
  obtain ⟨p, l', e, R, s, m, args, below, meth, cd, cells, slots, Q⟩ := κ
  obtain ⟨⟨hx, hb, -⟩, hr, hlk, rfl⟩ := K
  exact fun H locs ls hS hH hl => W.vret hx hb hr (fun t ht hW => ⟨⟨_, σ, rfl, h, by rw [ht]; exact hH⟩, hS.F ht⟩) hS.2.2 hd hlk
theorem W_run {p : Program} {e : Env} {R : Room} {s : State} {m : MethodId} {args : Array Value} {below : List Frame} {meth : Method} {c : Code} {H : Heap} {locs : List Loc} {cells slots : Nat} {Q : State → Prop} {ls : Array Slot} {st0 rest : List Value} {a : Array Value} {post' : Option Value → St → Prop}
    (hr : va_Run p l e R s m args below meth c H locs cells slots 0 0 (F0 m pc ls st0) rest (QM ω post' a) (wA ω)) (hS : va_S (wA ω) s.heap H locs)
    (kk : ∀ (v : Option Value) (σ' : St) (H1 : Heap) (locs1 : List Loc), post' v σ' → Hold ω σ' H1 → va_S (wA ω) s.heap H1 locs1 → W p l e R s m args below meth c H1 locs1 cells slots Q (F0 m (pc + 3) ls (v.toList ++ rest))) : W p l e R s m args below meth c H locs cells slots Q (F0 m pc ls st0) := by
  intro T hT X
  obtain ⟨v, st₀, t, T', L, h0, X', hL, e1, e2, ⟨⟨v', σ', hv, hp, hb⟩, hz, hk⟩, st⟩ := hr T hT X
  cases hv
  rw [h0] at hz hk
  obtain ⟨t2, a1, b1⟩ := kk v σ' T'.heap (locs ++ L) hp (by rw [e1]; exact hb)
    ⟨Nat.le_trans hS.1 (by rw [e1]; exact hz), fun q h1 h2 => by rw [e1, hk q (Nat.lt_of_lt_of_le h1 hS.1) h2]; exact hS.2.1 q h1 h2, fun q hq => by
      rcases List.mem_append.mp hq with h | h
      · exact hS.2.2 q h
      · exact hL q h⟩ T' rfl X'
  exact ⟨t2, st t2 a1, b1⟩
/-- a call's words: the link, the callee's code, how many arguments it takes -/
abbrev CW (own : String) (idx : Nat) (y : MethodName) (cc : ByteArray) (nL : Nat) (ret : Option FieldType) (n : Nat) : Prop := Cond.methodLink own idx y ∈ tbl ∧ Cond.initialized y.cls ∈ tbl ∧ Cond.code y cc nL ret ∈ tbl ∧ (y.cls ≠ "java/lang/invoke/MethodHandle" ∧ y.cls ≠ "java/lang/invoke/VarHandle" ∧ (parseMethodDescriptor y.desc).map (fun d => d.parameters.length) = some n) ∧ nL ≤ 21
abbrev CWV (own : String) (idx : Nat) (y : MethodName) (cc : ByteArray) (nL : Nat) (ret : Option FieldType) (n : Nat) : Prop := CW own idx y cc nL ret n ∧ Cond.instanceMethod y ∈ tbl ∧ Cond.selects y.cls y y ∈ tbl
abbrev CWS (own : String) (idx : Nat) (y : MethodName) (cc : ByteArray) (nL : Nat) (ret : Option FieldType) (n : Nat) : Prop := CW own idx y cc nL ret n ∧ Cond.static y ∈ tbl
theorem cw_B {R : Room} {s : State} {args : Array Value} {own : String} {idx n d' : Nat} {y' : MethodName} {cc' : ByteArray} {nL' : Nat} {ret' : Option FieldType} (hts : ∀ w ∈ tbl, w.before args s = true) (h : CW own idx y' cc' nL' ret' n) (hf : d' + 1 ≤ R.frames) (hlo : 40 * (d' + 1) ≤ R.locals) : CallB R s args own idx y' cc' nL' ret' (.code y' cc' nL' ret' :: tbl) (rmD d') 0 0 n := by
  obtain ⟨h1, h2, h3, h4, h5⟩ := h
  refine callB_of n hts (fun w hw => ?_) rfl rfl rfl (hts _ h2) (hts _ h1) h4 ⟨hf, by show 8 + (nL' + 11) + 40 * d' ≤ R.locals; omega⟩
  rcases List.mem_cons.mp hw with rfl | hw
  · exact tbl_good _ h3
  · exact tbl_good _ hw
theorem pb_at {ω : WT} {σ : St} {s U : State} {H : Heap} {locs : List Loc} (hS : va_S (wA ω) s.heap H locs) (hH : Hold ω σ H) (hK : va_K ω.1 vwCl (tysW ω) s) (hSt : Stt ω s s.heap) (hU : U.heap = H) (hW : s.WarmedH U.vm) : PB ω σ U := by
  refine ⟨by rw [hU]; exact hH, va_K.moved hW.alike hK, ?_⟩
  rw [hU]
  exact ⟨(hSt.1.kept hS.2.1).moved hW.alike, (hSt.2.kept hS.2.1).moved hW.alike⟩
theorem V_callV {idx k ci n d' nL' N : Nat} {fl : List Nat} {T : u_T} {y' : MethodName} {cc' : ByteArray} {ret' : Option FieldType} {As rest : List Value} {post' : Option Value → St → Prop} (K : Cx ω κ l y cc nL d) (hd : decode cc pc = .ok (.invokevirtual idx, 3)) (hw : CWV y.cls idx y' cc' nL' ret' n) (ho : shpO k = some (ci, fl)) (hc : vwCl[ci]? = some (y'.cls, T, N)) (hn : As.length = n) (hdd : d' + 1 ≤ d) (hst : S = As.reverse ++ .ref (ω.2.2.1 k) :: rest) (hW : (rest.map fun v => v.category).sum ≤ 8) (hM : Sp ω l y' cc' nL' ret' d' (.ref (ω.2.2.1 k) :: As) σ post')
    (kk : ∀ (v : Option Value) (σ' : St), post' v σ' → V ω κ (pc + 3) L (v.toList ++ rest) σ') : V ω κ pc L S σ := by
  obtain ⟨p, l', e, R, s, m, args, below, meth, cd, cells, slots, Q⟩ := κ
  obtain ⟨hx, hb, hml, hown, hts, hK, hWf, hSt, rfl, hfr, hlo, hce, hsl⟩ := K
  intro H locs ls hS hH hl
  refine W_run (va_runV (Ts := tbl) ⟨hx, hb, hml, hown, hts⟩ hM ⟨cw_B hts hw.1 (by omega) (by omega), hts _ hw.2.1, hts _ hw.2.2⟩ ⟨PB.blind, va_recv hK hH hc (q0 := k) (by rw [wd_at _ _ (shpO_lt ho), ce_O ho]), fun U hU hW => ⟨rfl, pb_at hS hH hK hSt hU hW⟩⟩ rfl hn (by rw [← hml]; exact hl.1) hst (by show 2 * 0 + _ ≤ 8; omega) hd ⟨hce, hsl⟩) hS (fun v σ' H1 locs1 hp h1 h2 => kk v σ' hp H1 locs1 ls h2 h1 hl)
theorem V_callS {idx n d' nL' : Nat} {y' : MethodName} {cc' : ByteArray} {ret' : Option FieldType} {As rest : List Value} {post' : Option Value → St → Prop} (K : Cx ω κ l y cc nL d) (hd : decode cc pc = .ok (.invokestatic idx, 3)) (hw : CWS y.cls idx y' cc' nL' ret' n) (hn : As.length = n) (hdd : d' + 1 ≤ d) (hst : S = As.reverse ++ rest) (hW : (rest.map fun v => v.category).sum ≤ 8) (hM : Sp ω l y' cc' nL' ret' d' As σ post')
    (kk : ∀ (v : Option Value) (σ' : St), post' v σ' → V ω κ (pc + 3) L (v.toList ++ rest) σ') : V ω κ pc L S σ := by
  obtain ⟨p, l', e, R, s, m, args, below, meth, cd, cells, slots, Q⟩ := κ
  obtain ⟨hx, hb, hml, hown, hts, hK, hWf, hSt, rfl, hfr, hlo, hce, hsl⟩ := K
  intro H locs ls hS hH hl
  refine W_run (va_runS (Ts := tbl) ⟨hx, hb, hml, hown, hts⟩ hM ⟨cw_B hts hw.1 (by omega) (by omega), hts _ hw.2⟩ ⟨PB.blind, fun U hU hW => ⟨rfl, pb_at hS hH hK hSt hU hW⟩⟩ rfl hn (by rw [← hml]; exact hl.1) hst (by show 2 * 0 + _ ≤ 8; omega) hd ⟨hce, hsl⟩) hS (fun v σ' H1 locs1 hp h1 h2 => kk v σ' hp H1 locs1 ls h2 h1 hl)
/-- contracts that say their answer and the state behind -/
def rI (r : Int32) (σ1 : St) : Option Value → St → Prop := fun v σ' => v = some (.int r) ∧ σ' = σ1
def rJ (r : Int64) (σ1 : St) : Option Value → St → Prop := fun v σ' => v = some (.long r) ∧ σ' = σ1
def rV (σ1 : St) : Option Value → St → Prop := fun v σ' => v = none ∧ σ' = σ1
theorem go_I {r : Int32} {σ1 : St} {rest : List Value} (k : V ω κ pc L (.int r :: rest) σ1) : ∀ (v : Option Value) (σ' : St), rI r σ1 v σ' → V ω κ pc L (v.toList ++ rest) σ' := fun _ _ h => by obtain ⟨rfl, rfl⟩ := h; exact k
theorem go_J {r : Int64} {σ1 : St} {rest : List Value} (k : V ω κ pc L (.long r :: rest) σ1) : ∀ (v : Option Value) (σ' : St), rJ r σ1 v σ' → V ω κ pc L (v.toList ++ rest) σ' := fun _ _ h => by obtain ⟨rfl, rfl⟩ := h; exact k
theorem go_V {σ1 : St} {rest : List Value} (k : V ω κ pc L rest σ1) : ∀ (v : Option Value) (σ' : St), rV σ1 v σ' → V ω κ pc L (v.toList ++ rest) σ' := fun _ _ h => by obtain ⟨rfl, rfl⟩ := h; exact k
end RULES3
