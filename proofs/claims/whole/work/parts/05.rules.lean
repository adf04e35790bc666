/-! ===== the rows of V: one an instruction ===== -/
def insL (a : Nat × Value) : List (Nat × Value) → List (Nat × Value)
  | [] => [a]
  | q :: r => bif Nat.blt a.1 q.1 then a :: q :: r else q :: insL a r
theorem insL_mem {a q : Nat × Value} : ∀ {l : List (Nat × Value)}, q ∈ insL a l → q ∈ a :: l
  | [], h => h
  | b :: r, h => by
    unfold insL at h
    cases hb : Nat.blt a.1 b.1
    · rw [hb] at h
      rcases List.mem_cons.mp h with h | h
      · subst h; simp
      · have := insL_mem h
        rcases List.mem_cons.mp this with h | h
        · subst h; simp
        · simp [h]
    · rw [hb] at h
      exact h
def stL (i : Nat) (v : Value) (L : List (Nat × Value)) : List (Nat × Value) := insL (i, v) (L.filter (fun q => !(q.1 == i) && !(q.1 + 1 == i && q.2.category == 2)))
def stL2 (i : Nat) (v : Value) (L : List (Nat × Value)) : List (Nat × Value) := insL (i, v) (L.filter (fun q => !(q.1 == i) && (!(q.1 == i + 1) && !(q.1 + 1 == i && q.2.category == 2))))
theorem lvh_ins {ls : Array Slot} {nL i : Nat} {v : Value} {L : List (Nat × Value)} (h : lv_has ls nL ((i, v) :: L)) : lv_has ls nL (insL (i, v) L) := ⟨h.1, h.2.1, fun q hq => h.2.2 q (insL_mem hq)⟩
section RULES
variable {ω : WT} {κ : KT} {l : Launch} {y : MethodName} {cc : ByteArray} {nL d pc : Nat} {L L' : List (Nat × Value)} {S : List Value} {σ : St} {ret : Option FieldType} {post : Option Value → St → Prop}
theorem V_sub (k : List Nat) (hl : lv_pick L k = L') (h : V ω κ pc L' S σ) : V ω κ pc L S σ := by
  obtain ⟨p, l', e, R, s, m, args, below, meth, c, cells, slots, Q⟩ := κ
  exact fun H locs ls hS hH h2 => h H locs ls hS hH (lv_sub h2 k hl)
theorem V_iconst {n : Int} {v : Int32} (K : Cx ω κ l y cc nL d) (hd : decode cc pc = .ok (.iconst n, 1)) (hv : Int32.ofInt n = v) (k : V ω κ (pc + 1) L (.int v :: S) σ) : V ω κ pc L S σ := by
  obtain ⟨p, l', e, R, s, m, args, below, meth, c, cells, slots, Q⟩ := κ
  exact fun H locs ls hS hH hl => lv_iconst K.1 K.2.1 hd hv (k H locs ls hS hH hl)
theorem V_bipush {n : Int} {v : Int32} (K : Cx ω κ l y cc nL d) (hd : decode cc pc = .ok (.bipush n, 2)) (hv : (Int8.ofInt n).toInt32 = v) (k : V ω κ (pc + 2) L (.int v :: S) σ) : V ω κ pc L S σ := by
  obtain ⟨p, l', e, R, s, m, args, below, meth, c, cells, slots, Q⟩ := κ
  exact fun H locs ls hS hH hl => lv_bipush K.1 K.2.1 hd hv (k H locs ls hS hH hl)
theorem V_sipush {n : Int} {v : Int32} (K : Cx ω κ l y cc nL d) (hd : decode cc pc = .ok (.sipush n, 3)) (hv : (Int16.ofInt n).toInt32 = v) (k : V ω κ (pc + 3) L (.int v :: S) σ) : V ω κ pc L S σ := by
  obtain ⟨p, l', e, R, s, m, args, below, meth, c, cells, slots, Q⟩ := κ
  exact fun H locs ls hS hH hl => lv_sipush K.1 K.2.1 hd hv (k H locs ls hS hH hl)
theorem V_lconst {n : Fin 2} {v : Int64} (K : Cx ω κ l y cc nL d) (hd : decode cc pc = .ok (.lconst n, 1)) (hv : Int64.ofNat (n : Nat) = v) (k : V ω κ (pc + 1) L (.long v :: S) σ) : V ω κ pc L S σ := by
  obtain ⟨p, l', e, R, s, m, args, below, meth, c, cells, slots, Q⟩ := κ
  exact fun H locs ls hS hH hl => lv_lconst K.1 K.2.1 hd hv (k H locs ls hS hH hl)
theorem V_iload_n {n : Fin 4} {i : Nat} {x : Int32} (j : Nat) (K : Cx ω κ l y cc nL d) (hd : decode cc pc = .ok (.iload_n n, 1)) (hi : (n : Nat) = i) (hj : L[j]? = some (i, .int x)) (k : V ω κ (pc + 1) L (.int x :: S) σ) : V ω κ pc L S σ := by
  obtain ⟨p, l', e, R, s, m, args, below, meth, c, cells, slots, Q⟩ := κ
  exact fun H locs ls hS hH hl => lv_iload_n K.1 K.2.1 hd hi (lv_at hl j hj) (k H locs ls hS hH hl)
theorem V_iload {i : Nat} {x : Int32} (j : Nat) (K : Cx ω κ l y cc nL d) (hd : decode cc pc = .ok (.iload i, 2)) (hj : L[j]? = some (i, .int x)) (k : V ω κ (pc + 2) L (.int x :: S) σ) : V ω κ pc L S σ := by
  obtain ⟨p, l', e, R, s, m, args, below, meth, c, cells, slots, Q⟩ := κ
  exact fun H locs ls hS hH hl => lv_iload K.1 K.2.1 hd (lv_at hl j hj) (k H locs ls hS hH hl)
theorem V_lload_n {n : Fin 4} {i : Nat} {x : Int64} (j : Nat) (K : Cx ω κ l y cc nL d) (hd : decode cc pc = .ok (.lload_n n, 1)) (hi : (n : Nat) = i) (hj : L[j]? = some (i, .long x)) (k : V ω κ (pc + 1) L (.long x :: S) σ) : V ω κ pc L S σ := by
  obtain ⟨p, l', e, R, s, m, args, below, meth, c, cells, slots, Q⟩ := κ
  exact fun H locs ls hS hH hl => lv_lload_n K.1 K.2.1 hd hi (lv_at hl j hj) (k H locs ls hS hH hl)
theorem V_lload {i : Nat} {x : Int64} (j : Nat) (K : Cx ω κ l y cc nL d) (hd : decode cc pc = .ok (.lload i, 2)) (hj : L[j]? = some (i, .long x)) (k : V ω κ (pc + 2) L (.long x :: S) σ) : V ω κ pc L S σ := by
  obtain ⟨p, l', e, R, s, m, args, below, meth, c, cells, slots, Q⟩ := κ
  exact fun H locs ls hS hH hl => lv_lload K.1 K.2.1 hd (lv_at hl j hj) (k H locs ls hS hH hl)
theorem V_aload_n {n : Fin 4} {i x : Nat} (j : Nat) (K : Cx ω κ l y cc nL d) (hd : decode cc pc = .ok (.aload_n n, 1)) (hi : (n : Nat) = i) (hj : L[j]? = some (i, .ref x)) (k : V ω κ (pc + 1) L (.ref x :: S) σ) : V ω κ pc L S σ := by
  obtain ⟨p, l', e, R, s, m, args, below, meth, c, cells, slots, Q⟩ := κ
  exact fun H locs ls hS hH hl => lv_aload_n K.1 K.2.1 hd hi (lv_at hl j hj) (k H locs ls hS hH hl)
theorem V_aload {i x : Nat} (j : Nat) (K : Cx ω κ l y cc nL d) (hd : decode cc pc = .ok (.aload i, 2)) (hj : L[j]? = some (i, .ref x)) (k : V ω κ (pc + 2) L (.ref x :: S) σ) : V ω κ pc L S σ := by
  obtain ⟨p, l', e, R, s, m, args, below, meth, c, cells, slots, Q⟩ := κ
  exact fun H locs ls hS hH hl => lv_aload K.1 K.2.1 hd (lv_at hl j hj) (k H locs ls hS hH hl)
theorem V_istore_n {n : Fin 4} {i : Nat} {x : Int32} (K : Cx ω κ l y cc nL d) (hd : decode cc pc = .ok (.istore_n n, 1)) (hi : (n : Nat) = i) (hn : i < nL) (hl : stL i (.int x) L = L') (k : V ω κ (pc + 1) L' S σ) : V ω κ pc L (.int x :: S) σ := by
  obtain ⟨p, l', e, R, s, m, args, below, meth, c, cells, slots, Q⟩ := κ
  exact fun H locs ls hS hH h2 => lv_istore_n K.1 K.2.1 hd hi h2 (by rw [K.2.2.1]; exact hn) rfl (fun ls h2 => k H locs ls hS hH (hl ▸ lvh_ins h2))
theorem V_istore {i : Nat} {x : Int32} (K : Cx ω κ l y cc nL d) (hd : decode cc pc = .ok (.istore i, 2)) (hn : i < nL) (hl : stL i (.int x) L = L') (k : V ω κ (pc + 2) L' S σ) : V ω κ pc L (.int x :: S) σ := by
  obtain ⟨p, l', e, R, s, m, args, below, meth, c, cells, slots, Q⟩ := κ
  exact fun H locs ls hS hH h2 => lv_istore K.1 K.2.1 hd h2 (by rw [K.2.2.1]; exact hn) rfl (fun ls h2 => k H locs ls hS hH (hl ▸ lvh_ins h2))
theorem V_astore_n {n : Fin 4} {i x : Nat} (K : Cx ω κ l y cc nL d) (hd : decode cc pc = .ok (.astore_n n, 1)) (hi : (n : Nat) = i) (hn : i < nL) (hl : stL i (.ref x) L = L') (k : V ω κ (pc + 1) L' S σ) : V ω κ pc L (.ref x :: S) σ := by
  obtain ⟨p, l', e, R, s, m, args, below, meth, c, cells, slots, Q⟩ := κ
  exact fun H locs ls hS hH h2 => lv_astore_n K.1 K.2.1 hd hi h2 (by rw [K.2.2.1]; exact hn) rfl (fun ls h2 => k H locs ls hS hH (hl ▸ lvh_ins h2))
theorem V_astore {i x : Nat} (K : Cx ω κ l y cc nL d) (hd : decode cc pc = .ok (.astore i, 2)) (hn : i < nL) (hl : stL i (.ref x) L = L') (k : V ω κ (pc + 2) L' S σ) : V ω κ pc L (.ref x :: S) σ := by
  obtain ⟨p, l', e, R, s, m, args, below, meth, c, cells, slots, Q⟩ := κ
  exact fun H locs ls hS hH h2 => lv_astore K.1 K.2.1 hd h2 (by rw [K.2.2.1]; exact hn) rfl (fun ls h2 => k H locs ls hS hH (hl ▸ lvh_ins h2))
theorem V_lstore_n {n : Fin 4} {i : Nat} {x : Int64} (K : Cx ω κ l y cc nL d) (hd : decode cc pc = .ok (.lstore_n n, 1)) (hi : (n : Nat) = i) (hn : i + 1 < nL) (hl : stL2 i (.long x) L = L') (k : V ω κ (pc + 1) L' S σ) : V ω κ pc L (.long x :: S) σ := by
  obtain ⟨p, l', e, R, s, m, args, below, meth, c, cells, slots, Q⟩ := κ
  exact fun H locs ls hS hH h2 => lv_lstore_n K.1 K.2.1 hd hi h2 (by rw [K.2.2.1]; exact hn) rfl (fun ls h2 => k H locs ls hS hH (hl ▸ lvh_ins h2))
theorem V_lstore {i : Nat} {x : Int64} (K : Cx ω κ l y cc nL d) (hd : decode cc pc = .ok (.lstore i, 2)) (hn : i + 1 < nL) (hl : stL2 i (.long x) L = L') (k : V ω κ (pc + 2) L' S σ) : V ω κ pc L (.long x :: S) σ := by
  obtain ⟨p, l', e, R, s, m, args, below, meth, c, cells, slots, Q⟩ := κ
  exact fun H locs ls hS hH h2 => lv_lstore K.1 K.2.1 hd h2 (by rw [K.2.2.1]; exact hn) rfl (fun ls h2 => k H locs ls hS hH (hl ▸ lvh_ins h2))
theorem V_iinc {i : Nat} {n : Int} {x v : Int32} (j : Nat) (K : Cx ω κ l y cc nL d) (hd : decode cc pc = .ok (.iinc i n, 3)) (hj : L[j]? = some (i, .int x)) (hv : x + Int32.ofInt n = v) (hn : i < nL) (hl : stL i (.int v) L = L') (k : V ω κ (pc + 3) L' S σ) : V ω κ pc L S σ := by
  obtain ⟨p, l', e, R, s, m, args, below, meth, c, cells, slots, Q⟩ := κ
  exact fun H locs ls hS hH h2 => lv_iinc K.1 K.2.1 hd h2 hj hv (by rw [K.2.2.1]; exact hn) rfl (fun ls h2 => k H locs ls hS hH (hl ▸ lvh_ins h2))
theorem V_iadd {x y' : Int32} (K : Cx ω κ l y cc nL d) (hd : decode cc pc = .ok (.iadd, 1)) (k : V ω κ (pc + 1) L (.int (x + y') :: S) σ) : V ω κ pc L (.int y' :: .int x :: S) σ := by
  obtain ⟨p, l', e, R, s, m, args, below, meth, c, cells, slots, Q⟩ := κ
  exact fun H locs ls hS hH hl => lv_iadd K.1 K.2.1 hd (k H locs ls hS hH hl)
theorem V_isub {x y' : Int32} (K : Cx ω κ l y cc nL d) (hd : decode cc pc = .ok (.isub, 1)) (k : V ω κ (pc + 1) L (.int (x - y') :: S) σ) : V ω κ pc L (.int y' :: .int x :: S) σ := by
  obtain ⟨p, l', e, R, s, m, args, below, meth, c, cells, slots, Q⟩ := κ
  exact fun H locs ls hS hH hl => lv_isub K.1 K.2.1 hd (k H locs ls hS hH hl)
theorem V_imul {x y' : Int32} (K : Cx ω κ l y cc nL d) (hd : decode cc pc = .ok (.imul, 1)) (k : V ω κ (pc + 1) L (.int (x * y') :: S) σ) : V ω κ pc L (.int y' :: .int x :: S) σ := by
  obtain ⟨p, l', e, R, s, m, args, below, meth, c, cells, slots, Q⟩ := κ
  exact fun H locs ls hS hH hl => lv_imul K.1 K.2.1 hd (k H locs ls hS hH hl)
theorem V_iand {x y' : Int32} (K : Cx ω κ l y cc nL d) (hd : decode cc pc = .ok (.iand, 1)) (k : V ω κ (pc + 1) L (.int (x &&& y') :: S) σ) : V ω κ pc L (.int y' :: .int x :: S) σ := by
  obtain ⟨p, l', e, R, s, m, args, below, meth, c, cells, slots, Q⟩ := κ
  exact fun H locs ls hS hH hl => lv_iand K.1 K.2.1 hd (k H locs ls hS hH hl)
theorem V_ior {x y' : Int32} (K : Cx ω κ l y cc nL d) (hd : decode cc pc = .ok (.ior, 1)) (k : V ω κ (pc + 1) L (.int (x ||| y') :: S) σ) : V ω κ pc L (.int y' :: .int x :: S) σ := by
  obtain ⟨p, l', e, R, s, m, args, below, meth, c, cells, slots, Q⟩ := κ
  exact fun H locs ls hS hH hl => lv_ior K.1 K.2.1 hd (k H locs ls hS hH hl)
theorem V_ixor {x y' : Int32} (K : Cx ω κ l y cc nL d) (hd : decode cc pc = .ok (.ixor, 1)) (k : V ω κ (pc + 1) L (.int (x ^^^ y') :: S) σ) : V ω κ pc L (.int y' :: .int x :: S) σ := by
  obtain ⟨p, l', e, R, s, m, args, below, meth, c, cells, slots, Q⟩ := κ
  exact fun H locs ls hS hH hl => lv_ixor K.1 K.2.1 hd (k H locs ls hS hH hl)
theorem V_ladd {x y' : Int64} (K : Cx ω κ l y cc nL d) (hd : decode cc pc = .ok (.ladd, 1)) (k : V ω κ (pc + 1) L (.long (x + y') :: S) σ) : V ω κ pc L (.long y' :: .long x :: S) σ := by
  obtain ⟨p, l', e, R, s, m, args, below, meth, c, cells, slots, Q⟩ := κ
  exact fun H locs ls hS hH hl => lv_ladd K.1 K.2.1 hd (k H locs ls hS hH hl)
theorem V_lsub {x y' : Int64} (K : Cx ω κ l y cc nL d) (hd : decode cc pc = .ok (.lsub, 1)) (k : V ω κ (pc + 1) L (.long (x - y') :: S) σ) : V ω κ pc L (.long y' :: .long x :: S) σ := by
  obtain ⟨p, l', e, R, s, m, args, below, meth, c, cells, slots, Q⟩ := κ
  exact fun H locs ls hS hH hl => lv_lsub K.1 K.2.1 hd (k H locs ls hS hH hl)
theorem V_lmul {x y' : Int64} (K : Cx ω κ l y cc nL d) (hd : decode cc pc = .ok (.lmul, 1)) (k : V ω κ (pc + 1) L (.long (x * y') :: S) σ) : V ω κ pc L (.long y' :: .long x :: S) σ := by
  obtain ⟨p, l', e, R, s, m, args, below, meth, c, cells, slots, Q⟩ := κ
  exact fun H locs ls hS hH hl => lv_lmul K.1 K.2.1 hd (k H locs ls hS hH hl)
theorem V_ishl {x y' : Int32} (K : Cx ω κ l y cc nL d) (hd : decode cc pc = .ok (.ishl, 1)) (k : V ω κ (pc + 1) L (.int (x <<< (y' &&& 31)) :: S) σ) : V ω κ pc L (.int y' :: .int x :: S) σ := by
  obtain ⟨p, l', e, R, s, m, args, below, meth, c, cells, slots, Q⟩ := κ
  exact fun H locs ls hS hH hl => lv_ishl K.1 K.2.1 hd (k H locs ls hS hH hl)
theorem V_ishr {x y' : Int32} (K : Cx ω κ l y cc nL d) (hd : decode cc pc = .ok (.ishr, 1)) (k : V ω κ (pc + 1) L (.int (x >>> (y' &&& 31)) :: S) σ) : V ω κ pc L (.int y' :: .int x :: S) σ := by
  obtain ⟨p, l', e, R, s, m, args, below, meth, c, cells, slots, Q⟩ := κ
  exact fun H locs ls hS hH hl => lv_ishr K.1 K.2.1 hd (k H locs ls hS hH hl)
theorem V_idiv {x y' : Int32} (K : Cx ω κ l y cc nL d) (hd : decode cc pc = .ok (.idiv, 1)) (hne : ¬ y' = 0) (k : V ω κ (pc + 1) L (.int (x / y') :: S) σ) : V ω κ pc L (.int y' :: .int x :: S) σ := by
  obtain ⟨p, l', e, R, s, m, args, below, meth, c, cells, slots, Q⟩ := κ
  exact fun H locs ls hS hH hl => lv_idiv K.1 K.2.1 hd hne (k H locs ls hS hH hl)
theorem V_irem {x y' : Int32} (K : Cx ω κ l y cc nL d) (hd : decode cc pc = .ok (.irem, 1)) (hne : ¬ y' = 0) (k : V ω κ (pc + 1) L (.int (x - x / y' * y') :: S) σ) : V ω κ pc L (.int y' :: .int x :: S) σ := by
  obtain ⟨p, l', e, R, s, m, args, below, meth, c, cells, slots, Q⟩ := κ
  exact fun H locs ls hS hH hl => lv_irem K.1 K.2.1 hd hne (k H locs ls hS hH hl)
theorem V_ldiv {x y' : Int64} (K : Cx ω κ l y cc nL d) (hd : decode cc pc = .ok (.ldiv, 1)) (hne : ¬ y' = 0) (k : V ω κ (pc + 1) L (.long (x / y') :: S) σ) : V ω κ pc L (.long y' :: .long x :: S) σ := by
  obtain ⟨p, l', e, R, s, m, args, below, meth, c, cells, slots, Q⟩ := κ
  exact fun H locs ls hS hH hl => lv_ldiv K.1 K.2.1 hd hne (k H locs ls hS hH hl)
theorem V_lrem {x y' : Int64} (K : Cx ω κ l y cc nL d) (hd : decode cc pc = .ok (.lrem, 1)) (hne : ¬ y' = 0) (k : V ω κ (pc + 1) L (.long (x - x / y' * y') :: S) σ) : V ω κ pc L (.long y' :: .long x :: S) σ := by
  obtain ⟨p, l', e, R, s, m, args, below, meth, c, cells, slots, Q⟩ := κ
  exact fun H locs ls hS hH hl => lv_lrem K.1 K.2.1 hd hne (k H locs ls hS hH hl)
theorem V_iushr {x y' : Int32} (K : Cx ω κ l y cc nL d) (hd : decode cc pc = .ok (.iushr, 1)) (k : V ω κ (pc + 1) L (.int ((x.toUInt32 >>> (y'.toUInt32 &&& Int32.toUInt32 31)).toInt32) :: S) σ) : V ω κ pc L (.int y' :: .int x :: S) σ := by
  obtain ⟨p, l', e, R, s, m, args, below, meth, c, cells, slots, Q⟩ := κ
  exact fun H locs ls hS hH hl => lv_iushr K.1 K.2.1 hd rfl (k H locs ls hS hH hl)
theorem V_i2l {x : Int32} (K : Cx ω κ l y cc nL d) (hd : decode cc pc = .ok (.i2l, 1)) (k : V ω κ (pc + 1) L (.long x.toInt64 :: S) σ) : V ω κ pc L (.int x :: S) σ := by
  obtain ⟨p, l', e, R, s, m, args, below, meth, c, cells, slots, Q⟩ := κ
  exact fun H locs ls hS hH hl => lv_i2l K.1 K.2.1 hd rfl (k H locs ls hS hH hl)
theorem V_i2b {x : Int32} (K : Cx ω κ l y cc nL d) (hd : decode cc pc = .ok (.i2b, 1)) (k : V ω κ (pc + 1) L (.int x.toInt8.toInt32 :: S) σ) : V ω κ pc L (.int x :: S) σ := by
  obtain ⟨p, l', e, R, s, m, args, below, meth, c, cells, slots, Q⟩ := κ
  exact fun H locs ls hS hH hl => lv_i2b K.1 K.2.1 hd rfl (k H locs ls hS hH hl)
theorem V_i2s {x : Int32} (K : Cx ω κ l y cc nL d) (hd : decode cc pc = .ok (.i2s, 1)) (k : V ω κ (pc + 1) L (.int x.toInt16.toInt32 :: S) σ) : V ω κ pc L (.int x :: S) σ := by
  obtain ⟨p, l', e, R, s, m, args, below, meth, c, cells, slots, Q⟩ := κ
  exact fun H locs ls hS hH hl => lv_i2s K.1 K.2.1 hd rfl (k H locs ls hS hH hl)
theorem V_dup {va : Value} (K : Cx ω κ l y cc nL d) (hd : decode cc pc = .ok (.dup, 1)) (hva : va.category = 1) (k : V ω κ (pc + 1) L (va :: va :: S) σ) : V ω κ pc L (va :: S) σ := by
  obtain ⟨p, l', e, R, s, m, args, below, meth, c, cells, slots, Q⟩ := κ
  exact fun H locs ls hS hH hl => lv_dup K.1 K.2.1 hd hva (k H locs ls hS hH hl)
theorem V_pop {va : Value} (K : Cx ω κ l y cc nL d) (hd : decode cc pc = .ok (.pop, 1)) (hva : va.category = 1) (k : V ω κ (pc + 1) L S σ) : V ω κ pc L (va :: S) σ := by
  obtain ⟨p, l', e, R, s, m, args, below, meth, c, cells, slots, Q⟩ := κ
  exact fun H locs ls hS hH hl => lv_pop K.1 K.2.1 hd hva (k H locs ls hS hH hl)
theorem V_dup2 {va vb : Value} (K : Cx ω κ l y cc nL d) (hd : decode cc pc = .ok (.dup2, 1)) (hva : va.category = 1) (hvb : vb.category = 1) (k : V ω κ (pc + 1) L (va :: vb :: va :: vb :: S) σ) : V ω κ pc L (va :: vb :: S) σ := by
  obtain ⟨p, l', e, R, s, m, args, below, meth, c, cells, slots, Q⟩ := κ
  exact fun H locs ls hS hH hl => lv_dup2_11 K.1 K.2.1 hd hva hvb (k H locs ls hS hH hl)
theorem V_lcmp {x y' : Int64} (K : Cx ω κ l y cc nL d) (hd : decode cc pc = .ok (.lcmp, 1)) (k : V ω κ (pc + 1) L (.int (lg_cmp x y') :: S) σ) : V ω κ pc L (.long y' :: .long x :: S) σ := by
  obtain ⟨p, l', e, R, s, m, args, below, meth, c, cells, slots, Q⟩ := κ
  exact fun H locs ls hS hH hl => W.lcmp K.1 K.2.1 hd (k H locs ls hS hH hl)
theorem V_if_eq {x : Int32} {off : Int} {tgt : Nat} (K : Cx ω κ l y cc nL d) (hd : decode cc pc = .ok (.ifCond .eq off, 3)) (ht : (pc : Int) + off = (tgt : Int)) (kt : x = 0 → V ω κ tgt L S σ) (kf : ¬ x = 0 → V ω κ (pc + 3) L S σ) : V ω κ pc L (.int x :: S) σ := by
  obtain ⟨p, l', e, R, s, m, args, below, meth, c, cells, slots, Q⟩ := κ
  exact fun H locs ls hS hH hl => lv_if_eq K.1 K.2.1 hd ht (fun h => kt h H locs ls hS hH hl) (fun h => kf h H locs ls hS hH hl)
theorem V_icmp_eq {x y' : Int32} {off : Int} {tgt : Nat} (K : Cx ω κ l y cc nL d) (hd : decode cc pc = .ok (.if_icmp .eq off, 3)) (ht : (pc : Int) + off = (tgt : Int)) (kt : x = y' → V ω κ tgt L S σ) (kf : ¬ x = y' → V ω κ (pc + 3) L S σ) : V ω κ pc L (.int y' :: .int x :: S) σ := by
  obtain ⟨p, l', e, R, s, m, args, below, meth, c, cells, slots, Q⟩ := κ
  exact fun H locs ls hS hH hl => lv_icmp_eq K.1 K.2.1 hd ht (fun h => kt h H locs ls hS hH hl) (fun h => kf h H locs ls hS hH hl)
theorem V_if_ne {x : Int32} {off : Int} {tgt : Nat} (K : Cx ω κ l y cc nL d) (hd : decode cc pc = .ok (.ifCond .ne off, 3)) (ht : (pc : Int) + off = (tgt : Int)) (kt : ¬ x = 0 → V ω κ tgt L S σ) (kf : x = 0 → V ω κ (pc + 3) L S σ) : V ω κ pc L (.int x :: S) σ := by
  obtain ⟨p, l', e, R, s, m, args, below, meth, c, cells, slots, Q⟩ := κ
  exact fun H locs ls hS hH hl => lv_if_ne K.1 K.2.1 hd ht (fun h => kt h H locs ls hS hH hl) (fun h => kf h H locs ls hS hH hl)
theorem V_icmp_ne {x y' : Int32} {off : Int} {tgt : Nat} (K : Cx ω κ l y cc nL d) (hd : decode cc pc = .ok (.if_icmp .ne off, 3)) (ht : (pc : Int) + off = (tgt : Int)) (kt : ¬ x = y' → V ω κ tgt L S σ) (kf : x = y' → V ω κ (pc + 3) L S σ) : V ω κ pc L (.int y' :: .int x :: S) σ := by
  obtain ⟨p, l', e, R, s, m, args, below, meth, c, cells, slots, Q⟩ := κ
  exact fun H locs ls hS hH hl => lv_icmp_ne K.1 K.2.1 hd ht (fun h => kt h H locs ls hS hH hl) (fun h => kf h H locs ls hS hH hl)
theorem V_if_lt {x : Int32} {off : Int} {tgt : Nat} (K : Cx ω κ l y cc nL d) (hd : decode cc pc = .ok (.ifCond .lt off, 3)) (ht : (pc : Int) + off = (tgt : Int)) (kt : x < 0 → V ω κ tgt L S σ) (kf : ¬ x < 0 → V ω κ (pc + 3) L S σ) : V ω κ pc L (.int x :: S) σ := by
  obtain ⟨p, l', e, R, s, m, args, below, meth, c, cells, slots, Q⟩ := κ
  exact fun H locs ls hS hH hl => lv_if_lt K.1 K.2.1 hd ht (fun h => kt h H locs ls hS hH hl) (fun h => kf h H locs ls hS hH hl)
theorem V_icmp_lt {x y' : Int32} {off : Int} {tgt : Nat} (K : Cx ω κ l y cc nL d) (hd : decode cc pc = .ok (.if_icmp .lt off, 3)) (ht : (pc : Int) + off = (tgt : Int)) (kt : x < y' → V ω κ tgt L S σ) (kf : ¬ x < y' → V ω κ (pc + 3) L S σ) : V ω κ pc L (.int y' :: .int x :: S) σ := by
  obtain ⟨p, l', e, R, s, m, args, below, meth, c, cells, slots, Q⟩ := κ
  exact fun H locs ls hS hH hl => lv_icmp_lt K.1 K.2.1 hd ht (fun h => kt h H locs ls hS hH hl) (fun h => kf h H locs ls hS hH hl)
theorem V_if_ge {x : Int32} {off : Int} {tgt : Nat} (K : Cx ω κ l y cc nL d) (hd : decode cc pc = .ok (.ifCond .ge off, 3)) (ht : (pc : Int) + off = (tgt : Int)) (kt : 0 ≤ x → V ω κ tgt L S σ) (kf : ¬ 0 ≤ x → V ω κ (pc + 3) L S σ) : V ω κ pc L (.int x :: S) σ := by
  obtain ⟨p, l', e, R, s, m, args, below, meth, c, cells, slots, Q⟩ := κ
  exact fun H locs ls hS hH hl => lv_if_ge K.1 K.2.1 hd ht (fun h => kt h H locs ls hS hH hl) (fun h => kf h H locs ls hS hH hl)
theorem V_icmp_ge {x y' : Int32} {off : Int} {tgt : Nat} (K : Cx ω κ l y cc nL d) (hd : decode cc pc = .ok (.if_icmp .ge off, 3)) (ht : (pc : Int) + off = (tgt : Int)) (kt : y' ≤ x → V ω κ tgt L S σ) (kf : ¬ y' ≤ x → V ω κ (pc + 3) L S σ) : V ω κ pc L (.int y' :: .int x :: S) σ := by
  obtain ⟨p, l', e, R, s, m, args, below, meth, c, cells, slots, Q⟩ := κ
  exact fun H locs ls hS hH hl => lv_icmp_ge K.1 K.2.1 hd ht (fun h => kt h H locs ls hS hH hl) (fun h => kf h H locs ls hS hH hl)
theorem V_if_gt {x : Int32} {off : Int} {tgt : Nat} (K : Cx ω κ l y cc nL d) (hd : decode cc pc = .ok (.ifCond .gt off, 3)) (ht : (pc : Int) + off = (tgt : Int)) (kt : 0 < x → V ω κ tgt L S σ) (kf : ¬ 0 < x → V ω κ (pc + 3) L S σ) : V ω κ pc L (.int x :: S) σ := by
  obtain ⟨p, l', e, R, s, m, args, below, meth, c, cells, slots, Q⟩ := κ
  exact fun H locs ls hS hH hl => lv_if_gt K.1 K.2.1 hd ht (fun h => kt h H locs ls hS hH hl) (fun h => kf h H locs ls hS hH hl)
theorem V_icmp_gt {x y' : Int32} {off : Int} {tgt : Nat} (K : Cx ω κ l y cc nL d) (hd : decode cc pc = .ok (.if_icmp .gt off, 3)) (ht : (pc : Int) + off = (tgt : Int)) (kt : y' < x → V ω κ tgt L S σ) (kf : ¬ y' < x → V ω κ (pc + 3) L S σ) : V ω κ pc L (.int y' :: .int x :: S) σ := by
  obtain ⟨p, l', e, R, s, m, args, below, meth, c, cells, slots, Q⟩ := κ
  exact fun H locs ls hS hH hl => lv_icmp_gt K.1 K.2.1 hd ht (fun h => kt h H locs ls hS hH hl) (fun h => kf h H locs ls hS hH hl)
theorem V_if_le {x : Int32} {off : Int} {tgt : Nat} (K : Cx ω κ l y cc nL d) (hd : decode cc pc = .ok (.ifCond .le off, 3)) (ht : (pc : Int) + off = (tgt : Int)) (kt : x ≤ 0 → V ω κ tgt L S σ) (kf : ¬ x ≤ 0 → V ω κ (pc + 3) L S σ) : V ω κ pc L (.int x :: S) σ := by
  obtain ⟨p, l', e, R, s, m, args, below, meth, c, cells, slots, Q⟩ := κ
  exact fun H locs ls hS hH hl => lv_if_le K.1 K.2.1 hd ht (fun h => kt h H locs ls hS hH hl) (fun h => kf h H locs ls hS hH hl)
theorem V_icmp_le {x y' : Int32} {off : Int} {tgt : Nat} (K : Cx ω κ l y cc nL d) (hd : decode cc pc = .ok (.if_icmp .le off, 3)) (ht : (pc : Int) + off = (tgt : Int)) (kt : x ≤ y' → V ω κ tgt L S σ) (kf : ¬ x ≤ y' → V ω κ (pc + 3) L S σ) : V ω κ pc L (.int y' :: .int x :: S) σ := by
  obtain ⟨p, l', e, R, s, m, args, below, meth, c, cells, slots, Q⟩ := κ
  exact fun H locs ls hS hH hl => lv_icmp_le K.1 K.2.1 hd ht (fun h => kt h H locs ls hS hH hl) (fun h => kf h H locs ls hS hH hl)
theorem V_goto {off : Int} {tgt : Nat} (K : Cx ω κ l y cc nL d) (hd : decode cc pc = .ok (.goto off, 3)) (ht : (pc : Int) + off = (tgt : Int)) (k : V ω κ tgt L S σ) : V ω κ pc L S σ := by
  obtain ⟨p, l', e, R, s, m, args, below, meth, c, cells, slots, Q⟩ := κ
  exact fun H locs ls hS hH hl => lv_goto K.1 K.2.1 hd ht (k H locs ls hS hH hl)
end RULES
