/-! ===== the rows of V: fields, arrays, switches, constants ===== -/
section RULES2
variable {ω : WT} {κ : KT} {l : Launch} {y : MethodName} {cc : ByteArray} {nL d pc : Nat} {L L' : List (Nat × Value)} {S : List Value} {σ : St} {ret : Option FieldType} {post : Option Value → St → Prop}
/-- a field of an object: its class's row, its link's word -/
abbrev FW (own : String) (idx : Nat) (C : String) (T : u_T) (N i : Nat) : Prop := (∀ w ∈ u_ws C T N, w ∈ tbl) ∧ i < N ∧ Cond.fieldLink own idx C (T i).2.1 (T i).2.2.1 ∈ tbl ∧ (T i).1 = C
theorem V_get {idx k i ci N c : Nat} {fl : List Nat} {C : String} {T : u_T} {v : Value} (K : Cx ω κ l y cc nL d) (hd : decode cc pc = .ok (.getfield idx, 3)) (ho : shpO k = some (ci, fl)) (hc : vwCl[ci]? = some (C, T, N)) (hw : FW y.cls idx C T N i) (hf : fl[i]? = some c) (hv : fv ω σ k i c = v) (kk : V ω κ (pc + 3) L (v :: S) σ) : V ω κ pc L (.ref (ω.2.2.1 k) :: S) σ := by
  subst hv
  obtain ⟨p, l', e, R, s, m, args, below, meth, cd, cells, slots, Q⟩ := κ
  obtain ⟨hx, hb, hml, hown, hts, hK, hWf, hSt, -⟩ := K
  exact fun H locs ls hS hH hl => va_get hx hb hts hw.1 hown hK hH k (by rw [wd_at _ _ (shpO_lt ho), ce_O ho]) hc i hw.2.1 (hts _ hw.2.2.1) (by rw [hw.2.2.2]; exact fun _ h => h) (fvs_get hf) hd (kk H locs ls hS hH hl)
/-- a field that may be written: kinds of its class's fields, their names, not final -/
abbrev PW (C : String) (T : u_T) (N i : Nat) (ty : Nat → FieldType) : Prop := (∀ k, k < N → parseFieldDescriptor (T k).2.2.1 = some (ty k)) ∧ (∀ a, a < N → ∀ b, b < N → a ≠ b → (T a).2.1 ≠ (T b).2.1) ∧ (T i).2.2.2 = false
theorem V_putI {idx k i ci N key : Nat} {fl : List Nat} {C : String} {T : u_T} {ty : Nat → FieldType} {v : Int32} (K : Cx ω κ l y cc nL d) (hd : decode cc pc = .ok (.putfield idx, 3)) (ho : shpO k = some (ci, fl)) (hc : vwCl[ci]? = some (C, T, N)) (hw : FW y.cls idx C T N i) (hp : PW C T N i ty) (hf : fl[i]? = some 0) (hn : narrow (ty i) (.int v) = .int v) (hfit : fits (ty i) (.int v) = true) (hk : 64 * k + i = key) (kk : V ω κ (pc + 3) L S (pS σ key v)) : V ω κ pc L (.int v :: .ref (ω.2.2.1 k) :: S) σ := by
  subst hk
  obtain ⟨p, l', e, R, s, m, args, below, meth, cd, cells, slots, Q⟩ := κ
  obtain ⟨hx, hb, hml, hown, hts, hK, hWf, hSt, -⟩ := K
  exact fun H locs ls hS hH hl => va_put hx hb hts hw.1 ty hp.1 hp.2.1 hown hK hH (wd_D hWf σ) hS k (by rw [wd_at _ _ (shpO_lt ho), ce_O ho]) hc i hw.2.1 (hts _ hw.2.2.1) (by rw [hw.2.2.2]; exact fun _ h => h) hp.2.2 (hp.1 i hw.2.1) hn hfit (by rw [fvs_len]; exact (List.getElem?_eq_some_iff.mp hf).1) hd
    (fun H1 locs1 h1 h2 h3 => kk H1 locs1 ls h3 (by rw [wd_pS ho hf] at h1; exact h1) hl)
theorem V_putL {idx k i ci N key : Nat} {fl : List Nat} {C : String} {T : u_T} {ty : Nat → FieldType} {v : Int64} (K : Cx ω κ l y cc nL d) (hd : decode cc pc = .ok (.putfield idx, 3)) (ho : shpO k = some (ci, fl)) (hc : vwCl[ci]? = some (C, T, N)) (hw : FW y.cls idx C T N i) (hp : PW C T N i ty) (hf : fl[i]? = some 1) (hn : narrow (ty i) (.long v) = .long v) (hfit : fits (ty i) (.long v) = true) (hk : 64 * k + i = key) (kk : V ω κ (pc + 3) L S (pL σ key v)) : V ω κ pc L (.long v :: .ref (ω.2.2.1 k) :: S) σ := by
  subst hk
  obtain ⟨p, l', e, R, s, m, args, below, meth, cd, cells, slots, Q⟩ := κ
  obtain ⟨hx, hb, hml, hown, hts, hK, hWf, hSt, -⟩ := K
  exact fun H locs ls hS hH hl => va_put hx hb hts hw.1 ty hp.1 hp.2.1 hown hK hH (wd_D hWf σ) hS k (by rw [wd_at _ _ (shpO_lt ho), ce_O ho]) hc i hw.2.1 (hts _ hw.2.2.1) (by rw [hw.2.2.2]; exact fun _ h => h) hp.2.2 (hp.1 i hw.2.1) hn hfit (by rw [fvs_len]; exact (List.getElem?_eq_some_iff.mp hf).1) hd
    (fun H1 locs1 h1 h2 h3 => kk H1 locs1 ls h3 (by rw [wd_pL ho hf] at h1; exact h1) hl)
theorem V_iaload {k n : Nat} {i v : Int32} (K : Cx ω κ l y cc nL d) (hd : decode cc pc = .ok (.iaload, 1)) (ho : shpA k = some (0, n)) (hin : vp_in i n) (hv : σ.2.1 k i.toNatClampNeg = v) (kk : V ω κ (pc + 1) L (.int v :: S) σ) : V ω κ pc L (.int i :: .ref (ω.2.2.1 k) :: S) σ := by
  subst hv
  obtain ⟨p, l', e, R, s, m, args, below, meth, cd, cells, slots, Q⟩ := κ
  obtain ⟨hx, hb, hml, hown, hts, hK, hWf, hSt, -⟩ := K
  exact fun H locs ls hS hH hl => va_iald hx hb hK hH k 0 (by rw [wd_at _ _ (shpA_lt ho), ce_A0 ho]) rfl hin hd (kk H locs ls hS hH hl)
theorem V_baload {k n : Nat} {i v : Int32} (K : Cx ω κ l y cc nL d) (hd : decode cc pc = .ok (.baload, 1)) (ho : shpA k = some (2, n)) (hin : vp_in i n) (hv : σ.2.1 k i.toNatClampNeg = v) (kk : V ω κ (pc + 1) L (.int v :: S) σ) : V ω κ pc L (.int i :: .ref (ω.2.2.1 k) :: S) σ := by
  subst hv
  obtain ⟨p, l', e, R, s, m, args, below, meth, cd, cells, slots, Q⟩ := κ
  obtain ⟨hx, hb, hml, hown, hts, hK, hWf, hSt, -⟩ := K
  exact fun H locs ls hS hH hl => va_zald hx hb hK hH k 2 (by rw [wd_at _ _ (shpA_lt ho), ce_A2 ho]) rfl hin hd (kk H locs ls hS hH hl)
theorem V_laload {k n : Nat} {i : Int32} {v : Int64} (K : Cx ω κ l y cc nL d) (hd : decode cc pc = .ok (.laload, 1)) (ho : shpA k = some (1, n)) (hin : vp_in i n) (hv : σ.2.2.2 k i.toNatClampNeg = v) (kk : V ω κ (pc + 1) L (.long v :: S) σ) : V ω κ pc L (.int i :: .ref (ω.2.2.1 k) :: S) σ := by
  subst hv
  obtain ⟨p, l', e, R, s, m, args, below, meth, cd, cells, slots, Q⟩ := κ
  obtain ⟨hx, hb, hml, hown, hts, hK, hWf, hSt, -⟩ := K
  exact fun H locs ls hS hH hl => va_lald hx hb hK hH k 1 (by rw [wd_at _ _ (shpA_lt ho), ce_A1 ho]) rfl hin hd (kk H locs ls hS hH hl)
theorem V_aaload {k n : Nat} {i : Int32} (K : Cx ω κ l y cc nL d) (hd : decode cc pc = .ok (.aaload, 1)) (ho : shpA k = some (3, n)) (hin : vp_in i n) (kk : V ω κ (pc + 1) L (.ref (ω.2.2.1 (2 + i.toNatClampNeg)) :: S) σ) : V ω κ pc L (.int i :: .ref (ω.2.2.1 k) :: S) σ := by
  obtain ⟨p, l', e, R, s, m, args, below, meth, cd, cells, slots, Q⟩ := κ
  obtain ⟨hx, hb, hml, hown, hts, hK, hWf, hSt, -⟩ := K
  exact fun H locs ls hS hH hl => va_aldq (C := "WonBySeats$Sheet") (f := fun i => some (ω.2.2.1 (2 + i))) hx hb hK hH k 3 (by rw [wd_at _ _ (shpA_lt ho), ce_A3 ho]) rfl hin hd (kk H locs ls hS hH hl)
theorem V_iastore {k n : Nat} {i v : Int32} (K : Cx ω κ l y cc nL d) (hd : decode cc pc = .ok (.iastore, 1)) (ho : shpA k = some (0, n)) (hin : vp_in i n) (kk : V ω κ (pc + 1) L S (pA σ k i.toNatClampNeg v)) : V ω κ pc L (.int v :: .int i :: .ref (ω.2.2.1 k) :: S) σ := by
  obtain ⟨p, l', e, R, s, m, args, below, meth, cd, cells, slots, Q⟩ := κ
  obtain ⟨hx, hb, hml, hown, hts, hK, hWf, hSt, -⟩ := K
  exact fun H locs ls hS hH hl => va_iast hx hb hK hH (wd_D hWf σ) hS k 0 (by rw [wd_at _ _ (shpA_lt ho), ce_A0 ho]) rfl hin hd
    (fun H1 locs1 h1 h2 h3 => kk H1 locs1 ls h3 (by rw [wd_pF ho] at h1; exact h1) hl)
theorem V_bastore {k n : Nat} {i v : Int32} (K : Cx ω κ l y cc nL d) (hd : decode cc pc = .ok (.bastore, 1)) (ho : shpA k = some (2, n)) (hin : vp_in i n) (hv : vp_nar .boolean v = v) (kk : V ω κ (pc + 1) L S (pA σ k i.toNatClampNeg v)) : V ω κ pc L (.int v :: .int i :: .ref (ω.2.2.1 k) :: S) σ := by
  obtain ⟨p, l', e, R, s, m, args, below, meth, cd, cells, slots, Q⟩ := κ
  obtain ⟨hx, hb, hml, hown, hts, hK, hWf, hSt, -⟩ := K
  exact fun H locs ls hS hH hl => va_zast hx hb hK hH (wd_D hWf σ) hS k 2 (by rw [wd_at _ _ (shpA_lt ho), ce_A2 ho]) rfl hin hd
    (fun H1 locs1 h1 h2 h3 => kk H1 locs1 ls h3 (by rw [wd_pZ ho, hv] at h1; exact h1) hl)
theorem V_lastore {k n : Nat} {i : Int32} {v : Int64} (K : Cx ω κ l y cc nL d) (hd : decode cc pc = .ok (.lastore, 1)) (ho : shpA k = some (1, n)) (hin : vp_in i n) (kk : V ω κ (pc + 1) L S (pM σ k i.toNatClampNeg v)) : V ω κ pc L (.long v :: .int i :: .ref (ω.2.2.1 k) :: S) σ := by
  obtain ⟨p, l', e, R, s, m, args, below, meth, cd, cells, slots, Q⟩ := κ
  obtain ⟨hx, hb, hml, hown, hts, hK, hWf, hSt, -⟩ := K
  exact fun H locs ls hS hH hl => va_last hx hb hK hH (wd_D hWf σ) hS k 1 (by rw [wd_at _ _ (shpA_lt ho), ce_A1 ho]) rfl hin hd
    (fun H1 locs1 h1 h2 h3 => kk H1 locs1 ls h3 (by rw [wd_pG ho] at h1; exact h1) hl)
theorem V_alenI {k n : Nat} {v : Int32} (K : Cx ω κ l y cc nL d) (hd : decode cc pc = .ok (.arraylength, 1)) (ho : shpA k = some (0, n)) (hv : Int32.ofNat n = v) (kk : V ω κ (pc + 1) L (.int v :: S) σ) : V ω κ pc L (.ref (ω.2.2.1 k) :: S) σ := by
  obtain ⟨p, l', e, R, s, m, args, below, meth, cd, cells, slots, Q⟩ := κ
  obtain ⟨hx, hb, hml, hown, hts, hK, hWf, hSt, -⟩ := K
  exact fun H locs ls hS hH hl => va_alen hx hb hK hH k 0 (by rw [wd_at _ _ (shpA_lt ho), ce_A0 ho]) rfl hv hd (kk H locs ls hS hH hl)
theorem V_alenL {k n : Nat} {v : Int32} (K : Cx ω κ l y cc nL d) (hd : decode cc pc = .ok (.arraylength, 1)) (ho : shpA k = some (1, n)) (hv : Int32.ofNat n = v) (kk : V ω κ (pc + 1) L (.int v :: S) σ) : V ω κ pc L (.ref (ω.2.2.1 k) :: S) σ := by
  obtain ⟨p, l', e, R, s, m, args, below, meth, cd, cells, slots, Q⟩ := κ
  obtain ⟨hx, hb, hml, hown, hts, hK, hWf, hSt, -⟩ := K
  exact fun H locs ls hS hH hl => va_alen hx hb hK hH k 1 (by rw [wd_at _ _ (shpA_lt ho), ce_A1 ho]) rfl hv hd (kk H locs ls hS hH hl)
/-- ORDERS_OF: its array, its numbers -/
theorem V_getstatic {idx : Nat} (K : Cx ω κ l y cc nL d) (hd : decode cc pc = .ok (.getstatic idx, 3)) (hw : Cond.fieldLink y.cls idx "WonBySeats$Orders" "ORDERS_OF" "[I" ∈ tbl) (kk : V ω κ (pc + 3) L (.ref ω.2.2.2 :: S) σ) : V ω κ pc L S σ := by
  obtain ⟨p, l', e, R, s, m, args, below, meth, cd, cells, slots, Q⟩ := κ
  obtain ⟨hx, hb, hml, hown, hts, hK, hWf, hSt, -⟩ := K
  exact fun H locs ls hS hH hl => va_gets hx hb hSt.1 hS hown (hts _ hw) (fun _ h => h) hd (kk H locs ls hS hH hl)
theorem V_ialoadT {i v : Int32} (K : Cx ω κ l y cc nL d) (hd : decode cc pc = .ok (.iaload, 1)) (hin : vp_in i 7) (hv : nI (([1, 1, 2, 6, 24, 120, 720] : List Nat).getD i.toNatClampNeg 0) = v) (kk : V ω κ (pc + 1) L (.int v :: S) σ) : V ω κ pc L (.int i :: .ref ω.2.2.2 :: S) σ := by
  subst hv
  obtain ⟨p, l', e, R, s, m, args, below, meth, cd, cells, slots, Q⟩ := κ
  obtain ⟨hx, hb, hml, hown, hts, hK, hWf, hSt, -⟩ := K
  exact fun H locs ls hS hH hl => va_ti hx hb hSt.2 hS hin rfl hd (kk H locs ls hS hH hl)
theorem V_ldc {idx : Nat} {v : Int32} (K : Cx ω κ l y cc nL d) (hd : decode cc pc = .ok (.ldc idx, 2)) (hw : Cond.constant y.cls idx v ∈ tbl) (kk : V ω κ (pc + 2) L (.int v :: S) σ) : V ω κ pc L S σ := by
  obtain ⟨p, l', e, R, s, m, args, below, meth, cd, cells, slots, Q⟩ := κ
  obtain ⟨hx, hb, hml, hown, hts, hK, hWf, hSt, -⟩ := K
  exact fun H locs ls hS hH hl => lv_ldc hx hb hown (hts _ hw) hd (kk H locs ls hS hH hl)
theorem V_ldc_w {idx : Nat} {v : Int32} (K : Cx ω κ l y cc nL d) (hd : decode cc pc = .ok (.ldc_w idx, 3)) (hw : Cond.constant y.cls idx v ∈ tbl) (kk : V ω κ (pc + 3) L (.int v :: S) σ) : V ω κ pc L S σ := by
  obtain ⟨p, l', e, R, s, m, args, below, meth, cd, cells, slots, Q⟩ := κ
  obtain ⟨hx, hb, hml, hown, hts, hK, hWf, hSt, -⟩ := K
  exact fun H locs ls hS hH hl => lv_ldcw hx hb hown (hts _ hw) hd (kk H locs ls hS hH hl)
theorem V_ldc2_w {idx : Nat} {v : Int64} (K : Cx ω κ l y cc nL d) (hd : decode cc pc = .ok (.ldc2_w idx, 3)) (hw : Cond.constantLong y.cls idx v ∈ tbl) (kk : V ω κ (pc + 3) L (.long v :: S) σ) : V ω κ pc L S σ := by
  obtain ⟨p, l', e, R, s, m, args, below, meth, cd, cells, slots, Q⟩ := κ
  obtain ⟨hx, hb, hml, hown, hts, hK, hWf, hSt, -⟩ := K
  exact fun H locs ls hS hH hl => lv_ldc2 hx hb hown (hts _ hw) hd (kk H locs ls hS hH hl)
theorem V_tableOut {dflt lo hi : Int} {offs : Array Int} {len : Nat} {x : Int32} {tgt : Nat} (K : Cx ω κ l y cc nL d) (hd : decode cc pc = .ok (.tableswitch dflt lo hi offs, len)) (h : x.toInt < lo ∨ hi < x.toInt) (ht : (pc : Int) + dflt = (tgt : Int)) (k : V ω κ tgt L S σ) : V ω κ pc L (.int x :: S) σ := by
  obtain ⟨p, l', e, R, s, m, args, below, meth, c, cells, slots, Q⟩ := κ
  exact fun H locs ls hS hH hl => lv_tableOut K.1 K.2.1 hd h ht (k H locs ls hS hH hl)
theorem V_tableIn {dflt lo hi : Int} {offs : Array Int} {len : Nat} {x : Int32} {off : Int} {tgt : Nat} (K : Cx ω κ l y cc nL d) (hd : decode cc pc = .ok (.tableswitch dflt lo hi offs, len)) (h1 : ¬ x.toInt < lo) (h2 : ¬ hi < x.toInt) (ho : offs[(x.toInt - lo).toNat]? = some off) (ht : (pc : Int) + off = (tgt : Int)) (k : V ω κ tgt L S σ) : V ω κ pc L (.int x :: S) σ := by
  obtain ⟨p, l', e, R, s, m, args, below, meth, c, cells, slots, Q⟩ := κ
  exact fun H locs ls hS hH hl => lv_tableIn K.1 K.2.1 hd h1 h2 ho ht (k H locs ls hS hH hl)
theorem V_lookup {dflt : Int} {ps : Array (Int × Int)} {len : Nat} {x : Int32} {off : Int} {tgt : Nat} (K : Cx ω κ l y cc nL d) (hd : decode cc pc = .ok (.lookupswitch dflt ps, len)) (hp : (ps.toList.zip (ps.toList.drop 1)).all (fun (a, next) => a.1 < next.1) = true) (ho : Op.lookupswitch.offset ps.toList dflt x.toInt = off) (ht : (pc : Int) + off = (tgt : Int)) (k : V ω κ tgt L S σ) : V ω κ pc L (.int x :: S) σ := by
  obtain ⟨p, l', e, R, s, m, args, below, meth, c, cells, slots, Q⟩ := κ
  exact fun H locs ls hS hH hl => lv_lookup K.1 K.2.1 hd hp ho ht (k H locs ls hS hH hl)
/-- System.arraycopy of ints -/
theorem V_copyI {idx k0 k1 n0 n1 : Nat} {sp dp n : Int32} (K : Cx ω κ l y cc nL d) (hd : decode cc pc = .ok (.invokestatic idx, 3)) (hw : Cond.methodLink y.cls idx arraycopyName ∈ tbl) (h0 : shpA k0 = some (0, n0)) (h1 : shpA k1 = some (0, n1)) (hsp : ¬ sp < 0) (hdp : ¬ dp < 0) (hn : ¬ n < 0) (h4 : sp.toNatClampNeg + n.toNatClampNeg ≤ n0) (h5 : dp.toNatClampNeg + n.toNatClampNeg ≤ n1) (hdd : 2 ≤ d) (hS0 : (S.map fun v => v.category).sum ≤ 8)
    (kk : V ω κ (pc + 3) L S (pF σ k1 (va_cpy (σ.2.1 k0) (σ.2.1 k1) sp.toNatClampNeg dp.toNatClampNeg n.toNatClampNeg))) : V ω κ pc L (.int n :: .int dp :: .ref (ω.2.2.1 k1) :: .int sp :: .ref (ω.2.2.1 k0) :: S) σ := by
  obtain ⟨p, l', e, R, s, m, args, below, meth, cd, cells, slots, Q⟩ := κ
  obtain ⟨hx, hb, hml, hown, hts, hK, hWf, hSt, -, hfr, hlo, -, -⟩ := K
  intro H locs ls hS hH hl
  refine va_copyi hx hb hl.1.symm hown (hts _ hw) (hts _ (by decide +kernel)) (hts _ (by decide +kernel)) (hts _ (by decide +kernel)) hK hH (wd_D hWf σ) hS k0 k1 0 0 (by rw [wd_at _ _ (shpA_lt h0), ce_A0 h0]) (by rw [wd_at _ _ (shpA_lt h1), ce_A0 h1]) rfl rfl rfl hsp hdp hn h4 h5 (fun _ _ => rfl) (by omega) ?_ hd
    (fun H1 locs1 h6 h7 h8 => kk H1 locs1 ls h8 (by rw [wd_pF h1] at h6; exact h6) hl)
  have : nativeFrameWords "java/lang/System" "arraycopy" 5 ≤ 40 := by decide
  omega
theorem V_copyL {idx k0 k1 n0 n1 : Nat} {sp dp n : Int32} (K : Cx ω κ l y cc nL d) (hd : decode cc pc = .ok (.invokestatic idx, 3)) (hw : Cond.methodLink y.cls idx arraycopyName ∈ tbl) (h0 : shpA k0 = some (1, n0)) (h1 : shpA k1 = some (1, n1)) (hsp : ¬ sp < 0) (hdp : ¬ dp < 0) (hn : ¬ n < 0) (h4 : sp.toNatClampNeg + n.toNatClampNeg ≤ n0) (h5 : dp.toNatClampNeg + n.toNatClampNeg ≤ n1) (hdd : 2 ≤ d) (hS0 : (S.map fun v => v.category).sum ≤ 8)
    (kk : V ω κ (pc + 3) L S (pG σ k1 (va_cpy (σ.2.2.2 k0) (σ.2.2.2 k1) sp.toNatClampNeg dp.toNatClampNeg n.toNatClampNeg))) : V ω κ pc L (.int n :: .int dp :: .ref (ω.2.2.1 k1) :: .int sp :: .ref (ω.2.2.1 k0) :: S) σ := by
  obtain ⟨p, l', e, R, s, m, args, below, meth, cd, cells, slots, Q⟩ := κ
  obtain ⟨hx, hb, hml, hown, hts, hK, hWf, hSt, -, hfr, hlo, -, -⟩ := K
  intro H locs ls hS hH hl
  refine va_copyl hx hb hl.1.symm hown (hts _ hw) (hts _ (by decide +kernel)) (hts _ (by decide +kernel)) (hts _ (by decide +kernel)) hK hH (wd_D hWf σ) hS k0 k1 1 1 (by rw [wd_at _ _ (shpA_lt h0), ce_A1 h0]) (by rw [wd_at _ _ (shpA_lt h1), ce_A1 h1]) rfl rfl rfl hsp hdp hn h4 h5 (fun _ _ => rfl) (by omega) ?_ hd
    (fun H1 locs1 h6 h7 h8 => kk H1 locs1 ls h8 (by rw [wd_pG h1] at h6; exact h6) hl)
  have : nativeFrameWords "java/lang/System" "arraycopy" 5 ≤ 40 := by decide
  omega
end RULES2
