/-! THE CLAIM OUT OF ONE WALK OF THE LAW'S BODY. Your part is whole_start (and what it stands on); all else here is the same for every law, but numbers. -/
def R_law : String := "WonBySeatsLaw"
def lw_P (b : Addr) (xs : List Int32) (args : Array Value) (s : State) : Prop := args = #[.ref b] ∧ s.IntsAt b xs ∧ xs.length ≤ 3072 ∧ (Jvm.Cond.and given_1 narrow_1).before args s = true
def lw_Q (_ : Array Value) (s : State) (o : Outcome) (t : State) : Prop := o = .returned (some (.int 1)) ∧ Framed s o t [] 600000 7302250
def lw_Z (below : List Frame) (a : Array Value) (s : State) : State → Prop := fun t => ∃ o, t.status = .running ∧ Ended t below o ∧ lw_Q a s o t
/-- the law's own end, with 1 on the stack, nothing written that was there before, its room as the claim has it -/
theorem lw_ret {p : Program} {l : Launch} {e : Env} {s : State} {m : MethodId} {below : List Frame} {meth : Method} {c : Code} {b : Nat} (hx : p.tables.exec = Jvm.exec) (hb : c.code = code) (hr : meth.sig.returnType = ret) (hlocks : meth.locks = false) {pc : Nat} {H : Heap} {ls : Array Slot} (hdg : decode code pc = .ok (.ireturn, 1)) : W p l e room_1 s m #[Value.ref b] below meth c H [] 600000 7302250 (lw_Z below #[Value.ref b] s) (F0 m pc ls [.int 1]) := by
  intro T hT X
  obtain ⟨fs, hret, hrun, hended, hW, hframe⟩ := X.leave (v := some (.int 1)) (hlocks := hlocks) (fun h => by rw [hr] at h; cases h)
  have hmeth' : T.vm.method? m = some meth := X.method'
  refine ⟨T.setFrames fs, ?_, .returned (some (.int 1)), hrun, hended, rfl, ⟨_, rfl⟩, hW, hframe⟩
  jvm_step X.here [X.here.top, hx, hb, hdg, hmeth', hr, ret, narrow_b1]
  (try refine ⟨rfl, ?_⟩); (try refine ⟨rfl, ?_⟩)
  first | (intro acts; rw [hret _ acts rfl rfl rfl]) | rw [hret _ _ rfl rfl rfl]
  exact Steps.refl _
/-- what holds at the law's entry: the machine, the code, the tables' words (any of lw_tbl by 'hts w (by decide +kernel)'), the script of L ints xs at the cell b, what the Statement gives of the start (any of its parts by flat_of_before) -/
def lw_At (p : Program) (s : State) (m : MethodId) (meth : Method) (c : Code) (b L : Nat) (xs : Nat → Int32) : Prop :=
  p.tables.exec = Jvm.exec ∧ c.code = code ∧ meth.sig.returnType = ret ∧ c.maxLocals = 4 ∧ s.vm.findClass R_law = some m.cls ∧ (∀ w ∈ lw_tbl, w.before #[Value.ref b] s = true) ∧ va_X b L xs s s.heap ∧ b < s.heap.size ∧ meth.locks = false ∧ (Jvm.Cond.and given_1 narrow_1).before #[Value.ref b] s = true
/-! ===== the law from its entry ===== -/
abbrev tmO : Term := .static "WonBySeats$Orders" "ORDERS_OF" "[I"
theorem stt_of {args : Array Value} {s : State} {A : Nat → Prop} (hl : (Cond.laysStatic "WonBySeats$Orders" "ORDERS_OF" "[I").before args s = true) (hini : (Cond.initialized "WonBySeats$Orders").before args s = true) (hg : (Jvm.Cond.and given_1 narrow_1).before args s = true) (hA : ∀ a : Nat, a < s.heap.size → ¬ A a) : ∃ t : Nat, va_Z "WonBySeats$Orders" "ORDERS_OF" "[I" (.ref t) A s s.heap ∧ va_T .int t 7 facV A s s.heap := by
  have hs := flat_of_before _ hg
  have hel : ∀ j : Nat, j < 7 → (Term.elem tmO (.int (Int32.ofNat j))).eval args s none [] s = some (facV j) := by
    intro j hj
    have h7 : j = 0 ∨ j = 1 ∨ j = 2 ∨ j = 3 ∨ j = 4 ∨ j = 5 ∨ j = 6 := by omega
    rcases h7 with rfl | rfl | rfl | rfl | rfl | rfl | rfl
    · exact va_eqt (hs (Cond.eq (.elem tmO (.int 0)) (.int 1)) (by decide +kernel))
    · exact va_eqt (hs (Cond.eq (.elem tmO (.int 1)) (.int 1)) (by decide +kernel))
    · exact va_eqt (hs (Cond.eq (.elem tmO (.int 2)) (.int 2)) (by decide +kernel))
    · exact va_eqt (hs (Cond.eq (.elem tmO (.int 3)) (.int 6)) (by decide +kernel))
    · exact va_eqt (hs (Cond.eq (.elem tmO (.int 4)) (.int 24)) (by decide +kernel))
    · exact va_eqt (hs (Cond.eq (.elem tmO (.int 5)) (.int 120)) (by decide +kernel))
    · exact va_eqt (hs (Cond.eq (.elem tmO (.int 6)) (.int 720)) (by decide +kernel))
  obtain ⟨t, ht, hT⟩ := va_Tof (N := 7) (f := facV) (by decide) (hs (Cond.arrayOf tmO .int) (by decide +kernel)) (va_eqt (hs (Cond.eq (.length tmO) (.int 7)) (by decide +kernel))) hel hA
  exact ⟨t, va_Zof hl hini ht hA, hT⟩
theorem arr_of {args : Array Value} {s : State} {ty : FieldType} (h : (Cond.arrayClass ty).before args s = true) : ∃ cA : ClassId, ArrOfT s cA ty ∧ s.vm.findClass ("[" ++ ty.toString) = some cA := by
  obtain ⟨cA, kA, comp, h1, h2, h3⟩ := Cond.arrayClass_spec h
  exact ⟨cA, fun n z => ⟨fun k h => (by cases h), kA, h2, comp, h3⟩, h1⟩
theorem known_0 {args : Array Value} {s : State} (hts : ∀ w ∈ tbl, w.before args s = true) (hao : va_AO "WonBySeats$Sheet" s) : ∃ g : GT, va_K g.1 vwCl (tysG g) s := by
  obtain ⟨c0, i0, h0⟩ := u_known (C := RX0) (T := TX0) (N := 7) (n := 7) hts itX0 (hts _ ins_X0)
  obtain ⟨c1, i1, h1⟩ := u_known (C := RX1) (T := TX1) (N := 6) (n := 6) hts itX1 (hts _ ins_X1)
  obtain ⟨c2, i2, h2⟩ := u_known (C := RX2) (T := TX2) (N := 6) (n := 6) hts itX2 (hts _ ins_X2)
  obtain ⟨c3, i3, h3⟩ := u_known (C := RX3) (T := TX3) (N := 7) (n := 7) hts itX3 (hts _ ins_X3)
  obtain ⟨c4, i4, h4⟩ := u_known (C := RX4) (T := TX4) (N := 5) (n := 5) hts itX4 (hts _ ins_X4)
  obtain ⟨c5, i5, h5⟩ := u_known (C := RX5) (T := TX5) (N := 6) (n := 6) hts itX5 (hts _ ins_X5)
  obtain ⟨c6, i6, h6⟩ := u_known (C := RX6) (T := TX6) (N := 3) (n := 3) hts itX6 (hts _ ins_X6)
  obtain ⟨c7, i7, h7⟩ := u_known (C := RX7) (T := TX7) (N := 10) (n := 10) hts itX7 (hts _ ins_X7)
  obtain ⟨c8, i8, h8⟩ := u_known (C := RX8) (T := TX8) (N := 10) (n := 10) hts itX8 (hts _ ins_X8)
  obtain ⟨c9, i9, h9⟩ := u_known (C := RX9) (T := TX9) (N := 44) (n := 44) hts itX9 (hts _ ins_X9)
  obtain ⟨aI, e1, e2⟩ := arr_of (hts (.arrayClass .int) (tbl_in 100 (by decide +kernel) rfl))
  obtain ⟨aJ, e3, e4⟩ := arr_of (hts (.arrayClass .long) (tbl_in 336 (by decide +kernel) rfl))
  obtain ⟨aZ, e5, e6⟩ := arr_of (hts (.arrayClass .boolean) (tbl_in 911 (by decide +kernel) rfl))
  obtain ⟨comp, cS, kS, f1, f2, f3, f4, f5⟩ := Cond.arrayOver_spec hao
  refine ⟨((fun k => [c0, c1, c2, c3, c4, c5, c6, c7, c8, c9].getD k c0, fun k => [i0, i1, i2, i3, i4, i5, i6, i7, i8, i9].getD k i0), fun k => [aI, aJ, aZ, cS].getD k aI), fun k q hq => ?_, fun k q hq => ?_⟩
  · match k, hq with
    | 0, hq => cases hq; exact h0
    | 1, hq => cases hq; exact h1
    | 2, hq => cases hq; exact h2
    | 3, hq => cases hq; exact h3
    | 4, hq => cases hq; exact h4
    | 5, hq => cases hq; exact h5
    | 6, hq => cases hq; exact h6
    | 7, hq => cases hq; exact h7
    | 8, hq => cases hq; exact h8
    | 9, hq => cases hq; exact h9
    | k + 10, hq => simp [vwCl] at hq
  · match k, hq with
    | 0, hq => cases hq; exact ⟨e1, e2⟩
    | 1, hq => cases hq; exact ⟨e3, e4⟩
    | 2, hq => cases hq; exact ⟨e5, e6⟩
    | 3, hq => cases hq; exact ⟨fun n z => ⟨fun k h => (by cases h), kS, f3, comp, f4⟩, kS, comp, f3, f4, f1, f5⟩
    | k + 4, hq => simp at hq
set_option maxHeartbeats 4000000 in
set_option maxRecDepth 100000 in
theorem whole_start {p : Program} {e : Env} {s : State} {m : MethodId} {below : List Frame} {meth : Method} {c : Code} (l : Launch) {b L : Nat} {xs : Nat → Int32} (hL : L ≤ 3072) (C0 : lw_At p s m meth c b L xs) : W p l e room_1 s m #[Value.ref b] below meth c s.heap [] 0 0 (lw_Z below #[Value.ref b] s) (entryFrame m ([Value.ref b] : List Value).toArray 4) := by
  obtain ⟨hx, hb, hr, hml, hown, hts, hX, hbl, hlocks, hgv⟩ := C0
  have htb : ∀ w ∈ tbl, w.before #[Value.ref b] s = true := fun w hw => hts w (List.mem_filter.mp hw).1
  have hao : va_AO "WonBySeats$Sheet" s := va_AO.of (hts (.arrayOver (.object "WonBySeats$Sheet")) (List.mem_of_getElem? (i := 82) (by decide +kernel)))
  have hn6 : va_Nw (.methodLinkNest RX8 17 yX6_init RX8) s := va_Nw.of rfl (hts (.methodLinkNest RX8 17 yX6_init RX8) (List.mem_of_getElem? (i := 84) (by decide +kernel)))
  have hn7 : va_Nw (.methodLinkNest RX8 20 yX7_init RX8) s := va_Nw.of rfl (hts (.methodLinkNest RX8 20 yX7_init RX8) (List.mem_of_getElem? (i := 103) (by decide +kernel)))
  obtain ⟨g, hK⟩ := known_0 htb hao
  obtain ⟨t, hZ, hT⟩ := stt_of (A := fun q => s.heap.size ≤ q) (hts (.laysStatic "WonBySeats$Orders" "ORDERS_OF" "[I") (List.mem_of_getElem? (i := 624) (by decide +kernel))) (hts (.initialized "WonBySeats$Orders") (List.mem_of_getElem? (i := 66) (by decide +kernel))) hgv (fun a h => Nat.not_le.mpr h)
  have hl := lv_entry ([.ref b]) (n := 4) (Nat.le_of_ble_eq_true rfl)
  rw [lg_entry_eq]
  have K : CN g (fun q => s.heap.size ≤ q) (p, l, e, room_1, s, m, #[Value.ref b], below, meth, c, lw_Z below #[Value.ref b] s) l RL cL_law 4 20 600000 7302250 := ⟨hx, hb, hml, hown, htb, hK, fun _ h => h, rfl, by decide, by decide, by decide, by decide⟩
  have hx8 : hasX (p, l, e, room_1, s, m, #[Value.ref b], below, meth, c, lw_Z below #[Value.ref b] s) X8p := fun U hW => ⟨va_AO.moved hW.alike hao, va_Nw.warmM hW hn6, va_Nw.warmM hW hn7⟩
  have walk : VN g (fun q => s.heap.size ≤ q) (p, l, e, room_1, s, m, #[Value.ref b], below, meth, c, lw_Z below #[Value.ref b] s) 0 [(0, .ref b)] [] [] 0 0 := by
    refine N_new (ci := 8) (fs := [.null, .null, .null, .null, .null, .null, .null, .null, .int 0, .int 0]) K dL_law_0 itX8 tyX8_ok clk_L_7 ins_X8 ini_X8 rfl df_X8 (by decide) (by decide) (fun q0 => ?_)
    refine N_dup K dL_law_3 ?_
    refine N_call (qi := 0) (isR := []) (wr := []) (As := []) (rest := [.ref q0]) K dL_law_4 mlk_L_9 kw_X8 (nX8 (h0 := q0)) bl_8 hx8 rfl rfl (by simp [Value.category]) rfl rfl (by decide) (by decide) (by decide) (by decide) (by decide) (fun u => ?_)
    refine N_astore_n (L' := [(0, .ref b), (1, .ref q0)]) K dL_law_7 rfl (by decide) rfl ?_
    refine N_new (ci := 9) (fs := [.int 0, .int 0, .null, .null, .null, .int 0, .int 0, .null, .null, .int 0, .int 0, .int 0, .null, .int 0, .int 0, .int 0, .null, .null, .int 0, .int 0, .int 0, .int 0, .int 0, .int 0, .int 0, .int 0, .int 0, .null, .null, .null, .null, .null, .int 0, .int 0, .null, .null, .null, .null, .null, .null, .null, .null, .null, .null]) K dL_law_8 itX9 tyX9_ok clk_L_10 ins_X9 ini_X9 rfl df_X9 (by decide) (by decide) (fun q1 => ?_)
    refine N_dup K dL_law_11 ?_
    refine N_call (qi := 35) (isR := [0, 1, 2, 3, 4, 5, 6, 7, 8, 9, 10, 11, 12, 13, 14, 15, 16, 17, 18, 19, 20, 21, 22, 23, 24, 25, 26, 27, 28, 29, 30, 31, 32, 33, 34]) (wr := PX8 g q0 u) (As := []) (rest := [.ref q1]) K dL_law_12 mlk_L_12 kw_X9 (nX9 (h0 := q1)) bl_T has_T rfl rfl (by simp [Value.category]) rfl rfl (by decide) (by decide) (by decide) (by decide) (by decide) (fun v => ?_)
    refine N_astore_n (L' := [(0, .ref b), (1, .ref q0), (2, .ref q1)]) K dL_law_15 rfl (by decide) rfl ?_
    refine N_iconst (v := 0) K dL_law_16 rfl ?_
    refine N_istore_n (L' := [(0, .ref b), (1, .ref q0), (2, .ref q1), (3, .int 0)]) K dL_law_17 rfl (by decide) rfl ?_
    intro H locs ls hS hP hD hl
    refine va_forget (fun q hq => hS.2.2 q hq) ?_
    refine W.widen (k := 600000) (n := 7302250) (by decide) (by decide) ?_
    have hH : Hold (omg g q0 u q1 v t) s00 H := hold_0 hP
    obtain ⟨hWf, hwA⟩ := wf_0 (t := t) hD
    have hS0 : va_S (wA (omg g q0 u q1 v t)) s.heap H [] := ⟨hS.1, fun q h1 h2 => hS.2.1 q h1 (Nat.not_le.mpr h1), fun _ h => by cases h⟩
    have hSt : Stt (omg g q0 u q1 v t) s s.heap := ⟨hZ.narrow hwA, hT.narrow hwA⟩
    have K2 : Cx (omg g q0 u q1 v t) (p, l, e, room_1, s, m, #[Value.ref b], below, meth, c, 600000, 7302250, lw_Z below #[Value.ref b] s) l yL_law cL_law 4 20 := ⟨hx, hb, hml, hown, htb, hK, hWf, hSt, rfl, by decide, by decide, by decide, by decide⟩
    have hScr : Scr (omg g q0 u q1 v t) (p, l, e, room_1, s, m, #[Value.ref b], below, meth, c, 600000, 7302250, lw_Z below #[Value.ref b] s) b L xs := ⟨hX, hbl, fun h => absurd (hwA b h) (Nat.not_le.mpr hbl)⟩
    refine law_loop K2 (Nat.le_refl _) hScr hL (fun i σ H1 locs1 ls1 hS1 hH1 hl1 => ?_) (L + 1) 0 ab0 s00 (by omega) ao_0 rc_0 rm_0 (by omega) H [] ls hS0 hH hl
    refine lv_iconst (v := 1) hx hb dL_law_1038 rfl ?_
    refine va_forget (fun q hq => hwA _ (hS1.2.2 q hq)) ?_
    exact lw_ret hx hb hr hlocks dL_law_1039
  exact walk s.heap [] _ va_S.rf (fun k q h => by simp at h) ⟨fun i j p q h => by simp at h, fun k q h => by simp at h⟩ (by rw [hml]; exact hl)
set_option maxHeartbeats 4000000 in
theorem lw_walk (l : Launch) (b : Addr) (xs : List Int32) : MetFree l x (headSpec (Jvm.Cond.code x code maxLocals ret :: tables_1) room_1) (lw_P b xs) (fun _ _ _ _ _ => True) lw_Q := by
  refine MetFree.of_bodyS (code := code) (maxLocals := maxLocals) (ret := ret) (by decide) ?_ ?_
  · intro args s m h hn
    obtain ⟨meth, c, h1, h2, h3, h4, h5, h6, -, -⟩ := Cond.code_spec hn (atoms_spec (ws := Jvm.Cond.code x code maxLocals ret :: tables_1) h _ List.mem_cons_self)
    exact ⟨meth, c, h1, h2, h3, h4, h5, h6⟩
  · intro p e s m args below meth c s₁ B hml0 hP _
    obtain ⟨rfl, hx, hbd, hgv⟩ := hP
    obtain ⟨scr, harrAt, hlist, hof, hsmall⟩ := hx
    obtain ⟨hcb, hkn, -, -⟩ := State.arrayAt?_spec harrAt
    have hown : s.vm.findClass R_law = some m.cls := findClass_of_methodNamed B.named
    have hts0 : ∀ c ∈ (Jvm.Cond.code x code maxLocals ret :: tables_1), c.before #[Value.ref b] s = true := atoms_spec (ws := Jvm.Cond.code x code maxLocals ret :: tables_1) B.pre
    have hts : ∀ w ∈ lw_tbl, w.before #[Value.ref b] s = true := k2_hts_sels lw_privs (fun w hw => hts0 w (List.mem_cons_of_mem _ hw)) lw_privs_ok
    have hml : c.maxLocals = 4 := B.maxLocals_eq (hts0 _ List.mem_cons_self)
    have X₀ : Stand p l e room_1 s m #[Value.ref b] below meth c s₁ [] 0 0 := Stand.of_body B
    have hh0 : s₁.heap = s.heap := by rw [B.state]; rfl
    have hsz : scr.slots.size = xs.length := by rw [← Array.length_toList, hlist, List.length_map]
    have hval : ∀ j : Nat, j < xs.length → scr.slots[j]? = some (.int (xs.getD j 0)) := fun j hj => by
      rw [← Array.getElem?_toList, hlist]
      simp [hj]
    have hbl : b < s.heap.size := (Array.getElem?_eq_some_iff.mp hcb).1
    have hX : va_X b xs.length (fun j => xs.getD j 0) s s.heap := ⟨scr, hcb, hof, hkn, hsz, hval⟩
    have K : W p l e room_1 s m #[Value.ref b] below meth c s₁.heap [] 0 0 (lw_Z below #[Value.ref b] s) (entryFrame m ([Value.ref b] : List Value).toArray 4) := by
      rw [hh0]
      exact whole_start l hbd ⟨B.exec, B.bytes, B.returns, hml, hown, hts, hX, hbl, B.notSynchronized, hgv⟩
    obtain ⟨t, a1, o, b1, b2, b3⟩ := K s₁ rfl X₀
    exact ⟨t, o, a1, b1, b2, b3⟩
theorem lw_pre_spec {args : Array Value} {s : State} (h : (Jvm.Cond.and given_1 narrow_1).before args s = true) (hr : rest_1_c.before args s = true) : ∃ (b : Addr) (xs : List Int32), lw_P b xs args s := by
  have hs := flat_of_before _ h
  have hq := flat_of_before _ hr
  have hc : (Cond.count 1).before args s = true := hs _ (by decide +kernel)
  have harr : (Cond.arrayOf (.arg 0) .int).before args s = true := hs _ (by decide +kernel)
  have hle : (Cond.le (.length (.arg 0)) (.int 3072)).before args s = true := hs _ (by decide +kernel)
  have hlen : (Cond.isInt (.length (.arg 0))).before args s = true := hq _ (by decide +kernel)
  have hall : (Cond.all (.arg 0) (.isInt (.elem (.arg 0) (.index 0)))).before args s = true := hq _ (by decide +kernel)
  obtain ⟨b, xs, hb, hx⟩ := State.ints_of_pre rfl harr hlen hall
  have hsm : xs.length < 2 ^ 31 := hx.choose_spec.2.2.2
  have hev : (Term.length (.arg 0)).eval args s none [] s = some (.int xs.length.toInt32) := hx.length_eval hb
  have hv := Cond.le_ints hev (show (Term.int 3072).eval args s none [] s = some (.int 3072) from rfl)
  have hd : xs.length.toInt32 ≤ 3072 := by
    simpa [Cond.before, Cond.holds, hv] using hle
  have hN : xs.length ≤ 3072 := (Int32.ofNat_le_ofNat hsm (by decide)).mp (show Int32.ofNat xs.length ≤ Int32.ofNat 3072 from hd)
  exact ⟨b, xs, Cond.one_arg hc (show args[0]? = some (.ref b) from hb), hx, hN, h⟩
theorem lw_comes (l : Launch) : Comes l x (Jvm.Cond.code x code maxLocals ret :: tables_1) room_1 (fun tb e args s => Calls_1 tb e args s ∧ rest_1 tb e args s ∧ Pre_1 tb e args s)
    (fun _ _ args s o t => lw_Q args s o t) := by
  intro p e ha hc hk s m args below hf hfit hheap happ hpre
  obtain ⟨b, xs, hP⟩ := lw_pre_spec hpre.2.2 hpre.2.1
  obtain ⟨k, o, h1, h2, h3, hQ⟩ := lw_walk l b xs p e ha hc hk s m args below hf ((Spec.applies_iff_loose hf).mp happ).1 hP trivial
  exact ⟨k, o, h1, h2, h3, hQ⟩
theorem lw_frame {s t : State} {o : Outcome} {args : Array Value} (h : Framed s o t [] 600000 7302250) :
    Framed s o t (fieldLocs frame_1_writes args s ++ arrayLocs frame_1_arrays args s ++ staticLocs frame_1_statics s) 600000 7302250 := h
theorem lw_limb (L : Cond) (hL : ∀ (args : Array Value) (s t : State), L.after args s (.returned (some (.int 1))) t = true) :
    ArmFor flags0 classFile x code maxLocals ret World_1 tables_1 room_1 Calls_1 rest_1 Pre_1
      (fun tb e a s o t => postC L tb e a s o t ∧ Framed s o t (fieldLocs frame_1_writes a s ++ arrayLocs frame_1_arrays a s ++ staticLocs frame_1_statics s) 600000 7302250) := by
  intro l _ _ _ p e ha hc hk s m args below hf hfit hheap happ hpre
  obtain ⟨k, o, h1, h2, h3, rfl, hF⟩ := lw_comes l p e ha hc hk s m args below hf hfit hheap happ hpre
  exact ⟨k, _, h1, h2, h3, hL args s _, lw_frame hF⟩
theorem i_vc : Claimed_1_1 ∧ Claimed_1_2 := ⟨lw_limb limb_1_1 (fun args s t => by simp [limb_1_1, Cond.after, Cond.holds, Cond.value]), lw_limb limb_1_2 (fun args s t => Cond.after_iff.mpr (by
  first | (rw [show limb_1_2 = Cond.eq .result (.int 1) from rfl, Cond.eq_ints (x := 1) (y := 1) rfl rfl]; simp; done) | (simp [limb_1_2, Cond.value, Term.eval]; done)))⟩
