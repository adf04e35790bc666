/-! ===== the law: the script, the calls, the loop ===== -/
section LAW
variable {ω : WT} {κ : KT} {l : Launch} {d : Nat} {a : Ab} {σ : St} {b Ln : Nat} {xs : Nat → Int32}
def Scr (ω : WT) (κ : KT) (b Ln : Nat) (xs : Nat → Int32) : Prop := match κ with
  | (_, _, _, _, s, _, _, _, _, _, _, _, _) => va_X b Ln xs s s.heap ∧ b < s.heap.size ∧ ¬ wA ω b
theorem V_sld {y : MethodName} {cc : ByteArray} {nL pc : Nat} {L : List (Nat × Value)} {S : List Value} {i : Int32} (K : Cx ω κ l y cc nL d) (hX : Scr ω κ b Ln xs) (hd : decode cc pc = .ok (.iaload, 1)) (hin : vp_in i Ln) (k : V ω κ (pc + 1) L (.int (xs i.toNatClampNeg) :: S) σ) : V ω κ pc L (.int i :: .ref b :: S) σ := by
  obtain ⟨p, l', e, R, s, m, args, below, meth, c, cells, slots, Q⟩ := κ
  exact fun H locs ls hS hH hl => va_sld K.1 K.2.1 hX.1 hX.2.1 hX.2.2 hS hin hd (k H locs ls hS hH hl)
theorem V_slen {y : MethodName} {cc : ByteArray} {nL pc : Nat} {L : List (Nat × Value)} {S : List Value} (K : Cx ω κ l y cc nL d) (hX : Scr ω κ b Ln xs) (hd : decode cc pc = .ok (.arraylength, 1)) (k : V ω κ (pc + 1) L (.int (nI Ln) :: S) σ) : V ω κ pc L (.ref b :: S) σ := by
  obtain ⟨p, l', e, R, s, m, args, below, meth, c, cells, slots, Q⟩ := κ
  exact fun H locs ls hS hH hl => va_slen K.1 K.2.1 hX.1 hX.2.1 hX.2.2 hS hd (k H locs ls hS hH hl)
abbrev LcL (ω : WT) (b i : Nat) : List (Nat × Value) := [(0, .ref b), (1, .ref (ω.2.2.1 0)), (2, .ref (ω.2.2.1 35)), (3, .int (nI i))]
theorem V_arg {y : MethodName} {cc : ByteArray} {nL pc i : Nat} {S : List Value} {n : Int} (k : Nat) (K : Cx ω κ l y cc nL d) (hX : Scr ω κ b Ln xs) (hi : i + 6 ≤ Ln) (hL : Ln ≤ 3072) (hd1 : decode cc pc = .ok (.aload_n 0, 1)) (hd2 : decode cc (pc + 1) = .ok (.iload_n 3, 1)) (hd3 : decode cc (pc + 2) = .ok (.iconst n, 1)) (hd4 : decode cc (pc + 3) = .ok (.iadd, 1)) (hd5 : decode cc (pc + 4) = .ok (.iaload, 1)) (hv : Int32.ofInt n = nI k) (hk : k < 6) (kk : V ω κ (pc + 5) (LcL ω b i) (.int (xs (i + k)) :: S) σ) : V ω κ pc (LcL ω b i) S σ := by
  refine V_aload_n 0 K hd1 rfl rfl ?_
  refine V_iload_n 3 K hd2 rfl rfl ?_
  refine V_iconst K hd3 hv ?_
  refine V_iadd K hd4 ?_
  rw [nI_add]
  refine V_sld K hX hd5 (vp_in_nI (by omega) (by omega)) ?_
  rw [nI_clamp (by omega)]
  exact kk
theorem V_bool {y : MethodName} {cc : ByteArray} {nL pc : Nat} {L : List (Nat × Value)} {S : List Value} {x : Int32} {o1 o2 : Int} (K : Cx ω κ l y cc nL d) (hd1 : decode cc pc = .ok (.ifCond .eq o1, 3)) (h1 : (pc : Int) + o1 = ((pc + 7 : Nat) : Int)) (hd2 : decode cc (pc + 3) = .ok (.iconst 1, 1)) (hd3 : decode cc (pc + 4) = .ok (.goto o2, 3)) (h2 : ((pc + 4 : Nat) : Int) + o2 = ((pc + 8 : Nat) : Int)) (hd4 : decode cc (pc + 7) = .ok (.iconst 0, 1)) (kk : V ω κ (pc + 8) L (.int (if x = 0 then 0 else 1) :: S) σ) : V ω κ pc L (.int x :: S) σ := by
  refine V_if_eq (tgt := pc + 7) K hd1 h1 (fun z => ?_) (fun z => ?_)
  · rw [if_pos z] at kk
    exact V_iconst K hd4 rfl kk
  · rw [if_neg z] at kk
    exact V_iconst K hd2 rfl (V_goto (tgt := pc + 8) K hd3 h2 kk)
theorem RM.ec {σ' : St} (h : RM a σ) (e : EC σ σ') : RM a σ' := by
  refine h.keep (ks := (List.range 2240)) (as := (List.range 35)) ⟨fun k hk => e.1 k ?_, fun k hk => e.2.1 k ?_, fun k hk => e.2.2.1 k ?_, fun k hk => e.2.2.2 k ?_⟩ ?_ ?_
  · rw [List.mem_range] at hk; omega
  · rw [List.mem_range] at hk; omega
  · rw [List.mem_range] at hk; omega
  · rw [List.mem_range] at hk; omega
  · intro k hk
    rw [List.mem_range]
    simp only [List.mem_cons, List.not_mem_nil, or_false] at hk
    omega
  · intro k hk
    rw [List.mem_range]
    simp only [List.mem_cons, List.not_mem_nil, or_false] at hk
    omega

theorem RC.em {σ' : St} (h : RC a σ) (e : EM σ σ') : RC a σ' := by
  have e1 : ∀ k, k < 2240 → σ'.1 k = σ.1 k := e.1
  have e2 : ∀ k, k < 35 → σ'.2.1 k = σ.2.1 k := e.2.1
  obtain ⟨⟨t1, t2, t3, t4, t5, t6, t7, t8, t9, t10⟩, h8, h9, hs⟩ := h
  refine ⟨⟨?_, ?_, ?_, ?_, ?_, ?_, ?_, ?_, ?_, ?_⟩, ?_, ?_, fun j hj => ?_⟩
  · rw [e1 _ (by omega)]; exact t1
  · rw [e1 _ (by omega)]; exact t2
  · rw [e1 _ (by omega)]; exact t3
  · rw [e1 _ (by omega)]; exact t4
  · rw [e1 _ (by omega)]; exact t5
  · rw [e1 _ (by omega)]; exact t6
  · rw [e1 _ (by omega)]; exact t7
  · rw [e2 _ (by omega)]; exact t8
  · rw [e2 _ (by omega)]; exact t9
  · rw [e2 _ (by omega)]; exact t10
  · rw [e1 _ (by omega)]; exact h8
  · rw [e1 _ (by omega)]; exact h9
  · have q := hs j hj
    revert q
    unfold ShC
    split
    · intro q
      rw [e1 _ (by omega)]
      exact q
    · intro q
      rw [e1 _ (by omega), e1 _ (by omega), e2 _ (by omega)]
      exact q

theorem lc_0 {i : Nat} (K : Cx ω κ l yL_law cL_law 4 d) (hd : 20 ≤ d) (hX : Scr ω κ b Ln xs) (hi : i + 6 ≤ Ln) (hL : Ln ≤ 3072) (hA : AO a) (hR : RC a σ) (hM : RM a σ) (nxt : ∀ a' σ', AO a' → RC a' σ' → RM a' σ' → V ω κ 1032 (LcL ω b i) [] σ') : V ω κ 160 (LcL ω b i) [] σ := by
  refine V_aload_n 1 K dL_law_160 rfl rfl ?_
  refine V_arg 1 K hX hi hL dL_law_161 dL_law_162 dL_law_163 dL_law_164 dL_law_165 rfl (by omega) ?_
  refine V_arg 2 K hX hi hL dL_law_166 dL_law_167 dL_law_168 dL_law_169 dL_law_170 rfl (by omega) ?_
  refine V_arg 3 K hX hi hL dL_law_171 dL_law_172 dL_law_173 dL_law_174 dL_law_175 rfl (by omega) ?_
  refine V_arg 4 K hX hi hL dL_law_176 dL_law_177 dL_law_178 dL_law_179 dL_law_180 rfl (by omega) ?_
  refine V_callV (d' := 19) (As := [.int (xs (i + 1)), .int (xs (i + 2)), .int (xs (i + 3)), .int (xs (i + 4))]) (rest := []) K dL_law_181 cw_L_13 rfl rfl rfl (by omega) rfl (by simp [Value.category]) (c_town K.wf (by omega) hA hR) (fun v σ1 h => ?_)
  obtain ⟨rfl, hR1, hE1⟩ := h
  have hM1 := hM.ec hE1
  refine V_aload_n 2 K dL_law_184 rfl rfl ?_
  refine V_arg 1 K hX hi hL dL_law_185 dL_law_186 dL_law_187 dL_law_188 dL_law_189 rfl (by omega) ?_
  refine V_arg 2 K hX hi hL dL_law_190 dL_law_191 dL_law_192 dL_law_193 dL_law_194 rfl (by omega) ?_
  refine V_arg 3 K hX hi hL dL_law_195 dL_law_196 dL_law_197 dL_law_198 dL_law_199 rfl (by omega) ?_
  refine V_arg 4 K hX hi hL dL_law_200 dL_law_201 dL_law_202 dL_law_203 dL_law_204 rfl (by omega) ?_
  refine V_callV (d' := 19) (As := [.int (xs (i + 1)), .int (xs (i + 2)), .int (xs (i + 3)), .int (xs (i + 4))]) (rest := [.int _]) K dL_law_205 cw_L_17 rfl rfl rfl (by omega) rfl (by simp [Value.category]) (d_town K.wf (by omega) hA hM1) (fun v σ2 h => ?_)
  obtain ⟨rfl, hM2, hE2⟩ := h
  exact V_icmp_eq (tgt := 1032) K dL_law_208 (by decide) (fun _ => nxt _ σ2 (a_town hA) (hR1.em hE2) hM2) (fun z => absurd rfl z)
theorem lc_1 {i : Nat} (K : Cx ω κ l yL_law cL_law 4 d) (hd : 20 ≤ d) (hX : Scr ω κ b Ln xs) (hi : i + 6 ≤ Ln) (hL : Ln ≤ 3072) (hA : AO a) (hR : RC a σ) (hM : RM a σ) (nxt : ∀ a' σ', AO a' → RC a' σ' → RM a' σ' → V ω κ 1032 (LcL ω b i) [] σ') : V ω κ 213 (LcL ω b i) [] σ := by
  refine V_aload_n 1 K dL_law_213 rfl rfl ?_
  refine V_arg 1 K hX hi hL dL_law_214 dL_law_215 dL_law_216 dL_law_217 dL_law_218 rfl (by omega) ?_
  refine V_arg 2 K hX hi hL dL_law_219 dL_law_220 dL_law_221 dL_law_222 dL_law_223 rfl (by omega) ?_
  refine V_callV (d' := 19) (As := [.int (xs (i + 1)), .int (xs (i + 2))]) (rest := []) K dL_law_224 cw_L_18 rfl rfl rfl (by omega) rfl (by simp [Value.category]) (c_ofOne K.wf (by omega) hA hR) (fun v σ1 h => ?_)
  obtain ⟨rfl, hR1, hE1⟩ := h
  have hM1 := hM.ec hE1
  refine V_aload_n 2 K dL_law_227 rfl rfl ?_
  refine V_arg 1 K hX hi hL dL_law_228 dL_law_229 dL_law_230 dL_law_231 dL_law_232 rfl (by omega) ?_
  refine V_arg 2 K hX hi hL dL_law_233 dL_law_234 dL_law_235 dL_law_236 dL_law_237 rfl (by omega) ?_
  refine V_callV (d' := 19) (As := [.int (xs (i + 1)), .int (xs (i + 2))]) (rest := [.int _]) K dL_law_238 cw_L_22 rfl rfl rfl (by omega) rfl (by simp [Value.category]) (d_ofOne K.wf (by omega) hA hM1) (fun v σ2 h => ?_)
  obtain ⟨rfl, hM2, hE2⟩ := h
  exact V_icmp_eq (tgt := 1032) K dL_law_241 (by decide) (fun _ => nxt _ σ2 hA (hR1.em hE2) hM2) (fun z => absurd rfl z)
theorem lc_2 {i : Nat} (K : Cx ω κ l yL_law cL_law 4 d) (hd : 20 ≤ d) (hX : Scr ω κ b Ln xs) (hi : i + 6 ≤ Ln) (hL : Ln ≤ 3072) (hA : AO a) (hR : RC a σ) (hM : RM a σ) (nxt : ∀ a' σ', AO a' → RC a' σ' → RM a' σ' → V ω κ 1032 (LcL ω b i) [] σ') : V ω κ 246 (LcL ω b i) [] σ := by
  refine V_aload_n 1 K dL_law_246 rfl rfl ?_
  refine V_arg 1 K hX hi hL dL_law_247 dL_law_248 dL_law_249 dL_law_250 dL_law_251 rfl (by omega) ?_
  refine V_arg 2 K hX hi hL dL_law_252 dL_law_253 dL_law_254 dL_law_255 dL_law_256 rfl (by omega) ?_
  refine V_arg 3 K hX hi hL dL_law_257 dL_law_258 dL_law_259 dL_law_260 dL_law_261 rfl (by omega) ?_
  refine V_bool K dL_law_262 (by decide) dL_law_265 dL_law_266 (by decide) dL_law_269 ?_
  refine V_callV (d' := 19) (As := [.int (xs (i + 1)), .int (xs (i + 2)), .int (if (xs (i + 3)) = 0 then 0 else 1)]) (rest := []) K dL_law_270 cw_L_23 rfl rfl rfl (by omega) rfl (by simp [Value.category]) (c_wish K.wf (by omega) hA hR (by split; exact Or.inl rfl; exact Or.inr rfl)) (fun v σ1 h => ?_)
  obtain ⟨rfl, hR1, hE1⟩ := h
  have hM1 := hM.ec hE1
  refine V_aload_n 2 K dL_law_273 rfl rfl ?_
  refine V_arg 1 K hX hi hL dL_law_274 dL_law_275 dL_law_276 dL_law_277 dL_law_278 rfl (by omega) ?_
  refine V_arg 2 K hX hi hL dL_law_279 dL_law_280 dL_law_281 dL_law_282 dL_law_283 rfl (by omega) ?_
  refine V_arg 3 K hX hi hL dL_law_284 dL_law_285 dL_law_286 dL_law_287 dL_law_288 rfl (by omega) ?_
  refine V_bool K dL_law_289 (by decide) dL_law_292 dL_law_293 (by decide) dL_law_296 ?_
  refine V_callV (d' := 19) (As := [.int (xs (i + 1)), .int (xs (i + 2)), .int (if (xs (i + 3)) = 0 then 0 else 1)]) (rest := [.int _]) K dL_law_297 cw_L_27 rfl rfl rfl (by omega) rfl (by simp [Value.category]) (d_wish K.wf (by omega) hA hM1 (by split; exact Or.inl rfl; exact Or.inr rfl)) (fun v σ2 h => ?_)
  obtain ⟨rfl, hM2, hE2⟩ := h
  exact V_icmp_eq (tgt := 1032) K dL_law_300 (by decide) (fun _ => nxt _ σ2 (a_wish hA) (hR1.em hE2) hM2) (fun z => absurd rfl z)
theorem lc_3 {i : Nat} (K : Cx ω κ l yL_law cL_law 4 d) (hd : 20 ≤ d) (hX : Scr ω κ b Ln xs) (hi : i + 6 ≤ Ln) (hL : Ln ≤ 3072) (hA : AO a) (hR : RC a σ) (hM : RM a σ) (nxt : ∀ a' σ', AO a' → RC a' σ' → RM a' σ' → V ω κ 1032 (LcL ω b i) [] σ') : V ω κ 305 (LcL ω b i) [] σ := by
  refine V_aload_n 1 K dL_law_305 rfl rfl ?_
  refine V_arg 1 K hX hi hL dL_law_306 dL_law_307 dL_law_308 dL_law_309 dL_law_310 rfl (by omega) ?_
  refine V_callV (d' := 19) (As := [.int (xs (i + 1))]) (rest := []) K dL_law_311 cw_L_28 rfl rfl rfl (by omega) rfl (by simp [Value.category]) (c_measure K.wf (by omega) hA hR) (fun v σ1 h => ?_)
  obtain ⟨rfl, hR1, hE1⟩ := h
  have hM1 := hM.ec hE1
  refine V_aload_n 2 K dL_law_314 rfl rfl ?_
  refine V_arg 1 K hX hi hL dL_law_315 dL_law_316 dL_law_317 dL_law_318 dL_law_319 rfl (by omega) ?_
  refine V_callV (d' := 19) (As := [.int (xs (i + 1))]) (rest := [.int _]) K dL_law_320 cw_L_32 rfl rfl rfl (by omega) rfl (by simp [Value.category]) (d_measure K.wf (by omega) hA hM1) (fun v σ2 h => ?_)
  obtain ⟨rfl, hM2, hE2⟩ := h
  exact V_icmp_eq (tgt := 1032) K dL_law_323 (by decide) (fun _ => nxt _ σ2 (a_measure hA) (hR1.em hE2) hM2) (fun z => absurd rfl z)
theorem lc_4 {i : Nat} (K : Cx ω κ l yL_law cL_law 4 d) (hd : 20 ≤ d) (hX : Scr ω κ b Ln xs) (hi : i + 6 ≤ Ln) (hL : Ln ≤ 3072) (hA : AO a) (hR : RC a σ) (hM : RM a σ) (nxt : ∀ a' σ', AO a' → RC a' σ' → RM a' σ' → V ω κ 1032 (LcL ω b i) [] σ') : V ω κ 328 (LcL ω b i) [] σ := by
  refine V_aload_n 1 K dL_law_328 rfl rfl ?_
  refine V_arg 1 K hX hi hL dL_law_329 dL_law_330 dL_law_331 dL_law_332 dL_law_333 rfl (by omega) ?_
  refine V_callV (d' := 19) (As := [.int (xs (i + 1))]) (rest := []) K dL_law_334 cw_L_33 rfl rfl rfl (by omega) rfl (by simp [Value.category]) (c_law K.wf (by omega) hA hR) (fun v σ1 h => ?_)
  obtain ⟨rfl, hR1, hE1⟩ := h
  have hM1 := hM.ec hE1
  refine V_aload_n 2 K dL_law_337 rfl rfl ?_
  refine V_arg 1 K hX hi hL dL_law_338 dL_law_339 dL_law_340 dL_law_341 dL_law_342 rfl (by omega) ?_
  refine V_callV (d' := 19) (As := [.int (xs (i + 1))]) (rest := [.int _]) K dL_law_343 cw_L_36 rfl rfl rfl (by omega) rfl (by simp [Value.category]) (d_law K.wf (by omega) hA hM1) (fun v σ2 h => ?_)
  obtain ⟨rfl, hM2, hE2⟩ := h
  exact V_icmp_eq (tgt := 1032) K dL_law_346 (by decide) (fun _ => nxt _ σ2 (a_law hA) (hR1.em hE2) hM2) (fun z => absurd rfl z)
theorem lc_5 {i : Nat} (K : Cx ω κ l yL_law cL_law 4 d) (hd : 20 ≤ d) (hX : Scr ω κ b Ln xs) (hi : i + 6 ≤ Ln) (hL : Ln ≤ 3072) (hA : AO a) (hR : RC a σ) (hM : RM a σ) (nxt : ∀ a' σ', AO a' → RC a' σ' → RM a' σ' → V ω κ 1032 (LcL ω b i) [] σ') : V ω κ 351 (LcL ω b i) [] σ := by
  refine V_aload_n 1 K dL_law_351 rfl rfl ?_
  refine V_arg 1 K hX hi hL dL_law_352 dL_law_353 dL_law_354 dL_law_355 dL_law_356 rfl (by omega) ?_
  refine V_arg 2 K hX hi hL dL_law_357 dL_law_358 dL_law_359 dL_law_360 dL_law_361 rfl (by omega) ?_
  refine V_arg 3 K hX hi hL dL_law_362 dL_law_363 dL_law_364 dL_law_365 dL_law_366 rfl (by omega) ?_
  refine V_arg 4 K hX hi hL dL_law_367 dL_law_368 dL_law_369 dL_law_370 dL_law_371 rfl (by omega) ?_
  refine V_callV (d' := 19) (As := [.int (xs (i + 1)), .int (xs (i + 2)), .int (xs (i + 3)), .int (xs (i + 4))]) (rest := []) K dL_law_372 cw_L_37 rfl rfl rfl (by omega) rfl (by simp [Value.category]) (c_agenda K.wf (by omega) hA hR) (fun v σ1 h => ?_)
  obtain ⟨rfl, hR1, hE1⟩ := h
  have hM1 := hM.ec hE1
  refine V_aload_n 2 K dL_law_375 rfl rfl ?_
  refine V_arg 1 K hX hi hL dL_law_376 dL_law_377 dL_law_378 dL_law_379 dL_law_380 rfl (by omega) ?_
  refine V_arg 2 K hX hi hL dL_law_381 dL_law_382 dL_law_383 dL_law_384 dL_law_385 rfl (by omega) ?_
  refine V_arg 3 K hX hi hL dL_law_386 dL_law_387 dL_law_388 dL_law_389 dL_law_390 rfl (by omega) ?_
  refine V_arg 4 K hX hi hL dL_law_391 dL_law_392 dL_law_393 dL_law_394 dL_law_395 rfl (by omega) ?_
  refine V_callV (d' := 19) (As := [.int (xs (i + 1)), .int (xs (i + 2)), .int (xs (i + 3)), .int (xs (i + 4))]) (rest := [.int _]) K dL_law_396 cw_L_40 rfl rfl rfl (by omega) rfl (by simp [Value.category]) (d_agenda K.wf (by omega) hA hM1) (fun v σ2 h => ?_)
  obtain ⟨rfl, hM2, hE2⟩ := h
  exact V_icmp_eq (tgt := 1032) K dL_law_399 (by decide) (fun _ => nxt _ σ2 (a_agenda hA) (hR1.em hE2) hM2) (fun z => absurd rfl z)
theorem lc_6 {i : Nat} (K : Cx ω κ l yL_law cL_law 4 d) (hd : 20 ≤ d) (hX : Scr ω κ b Ln xs) (hi : i + 6 ≤ Ln) (hL : Ln ≤ 3072) (hA : AO a) (hR : RC a σ) (hM : RM a σ) (nxt : ∀ a' σ', AO a' → RC a' σ' → RM a' σ' → V ω κ 1032 (LcL ω b i) [] σ') : V ω κ 404 (LcL ω b i) [] σ := by
  refine V_aload_n 1 K dL_law_404 rfl rfl ?_
  refine V_arg 1 K hX hi hL dL_law_405 dL_law_406 dL_law_407 dL_law_408 dL_law_409 rfl (by omega) ?_
  refine V_arg 2 K hX hi hL dL_law_410 dL_law_411 dL_law_412 dL_law_413 dL_law_414 rfl (by omega) ?_
  refine V_callV (d' := 19) (As := [.int (xs (i + 1)), .int (xs (i + 2))]) (rest := []) K dL_law_415 cw_L_41 rfl rfl rfl (by omega) rfl (by simp [Value.category]) (c_vote K.wf (by omega) hA hR) (fun v σ1 h => ?_)
  obtain ⟨rfl, hR1, hE1⟩ := h
  have hM1 := hM.ec hE1
  refine V_aload_n 2 K dL_law_418 rfl rfl ?_
  refine V_arg 1 K hX hi hL dL_law_419 dL_law_420 dL_law_421 dL_law_422 dL_law_423 rfl (by omega) ?_
  refine V_arg 2 K hX hi hL dL_law_424 dL_law_425 dL_law_426 dL_law_427 dL_law_428 rfl (by omega) ?_
  refine V_callV (d' := 19) (As := [.int (xs (i + 1)), .int (xs (i + 2))]) (rest := [.int _]) K dL_law_429 cw_L_44 rfl rfl rfl (by omega) rfl (by simp [Value.category]) (d_vote K.wf (by omega) hA hM1) (fun v σ2 h => ?_)
  obtain ⟨rfl, hM2, hE2⟩ := h
  exact V_icmp_eq (tgt := 1032) K dL_law_432 (by decide) (fun _ => nxt _ σ2 hA (hR1.em hE2) hM2) (fun z => absurd rfl z)
theorem lc_7 {i : Nat} (K : Cx ω κ l yL_law cL_law 4 d) (hd : 20 ≤ d) (hX : Scr ω κ b Ln xs) (hi : i + 6 ≤ Ln) (hL : Ln ≤ 3072) (hA : AO a) (hR : RC a σ) (hM : RM a σ) (nxt : ∀ a' σ', AO a' → RC a' σ' → RM a' σ' → V ω κ 1032 (LcL ω b i) [] σ') : V ω κ 437 (LcL ω b i) [] σ := by
  refine V_aload_n 1 K dL_law_437 rfl rfl ?_
  refine V_arg 1 K hX hi hL dL_law_438 dL_law_439 dL_law_440 dL_law_441 dL_law_442 rfl (by omega) ?_
  refine V_callV (d' := 19) (As := [.int (xs (i + 1))]) (rest := []) K dL_law_443 cw_L_45 rfl rfl rfl (by omega) rfl (by simp [Value.category]) (c_decided K.wf (by omega) hA hR) (fun v σ1 h => ?_)
  obtain ⟨rfl, hR1, hE1⟩ := h
  have hM1 := hM.ec hE1
  refine V_aload_n 2 K dL_law_446 rfl rfl ?_
  refine V_arg 1 K hX hi hL dL_law_447 dL_law_448 dL_law_449 dL_law_450 dL_law_451 rfl (by omega) ?_
  refine V_callV (d' := 19) (As := [.int (xs (i + 1))]) (rest := [.int _]) K dL_law_452 cw_L_48 rfl rfl rfl (by omega) rfl (by simp [Value.category]) (d_decided K.wf (by omega) hA hM1) (fun v σ2 h => ?_)
  obtain ⟨rfl, hM2, hE2⟩ := h
  exact V_icmp_eq (tgt := 1032) K dL_law_455 (by decide) (fun _ => nxt _ σ2 hA (hR1.em hE2) hM2) (fun z => absurd rfl z)
theorem lc_8 {i : Nat} (K : Cx ω κ l yL_law cL_law 4 d) (hd : 20 ≤ d) (hX : Scr ω κ b Ln xs) (hi : i + 6 ≤ Ln) (hL : Ln ≤ 3072) (hA : AO a) (hR : RC a σ) (hM : RM a σ) (nxt : ∀ a' σ', AO a' → RC a' σ' → RM a' σ' → V ω κ 1032 (LcL ω b i) [] σ') : V ω κ 460 (LcL ω b i) [] σ := by
  refine V_aload_n 1 K dL_law_460 rfl rfl ?_
  refine V_callV (d' := 19) (As := []) (rest := []) K dL_law_461 cw_L_49 rfl rfl rfl (by omega) rfl (by simp [Value.category]) (c_sits K.wf (by omega) hA hR) (fun v σ1 h => ?_)
  obtain ⟨rfl, hR1, hE1⟩ := h
  have hM1 := hM.ec hE1
  refine V_aload_n 2 K dL_law_464 rfl rfl ?_
  refine V_callV (d' := 19) (As := []) (rest := [.int _]) K dL_law_465 cw_L_53 rfl rfl rfl (by omega) rfl (by simp [Value.category]) (d_sits K.wf (by omega) hA hM1) (fun v σ2 h => ?_)
  obtain ⟨rfl, hM2, hE2⟩ := h
  exact V_icmp_eq (tgt := 1032) K dL_law_468 (by decide) (fun _ => nxt _ σ2 hA (hR1.em hE2) hM2) (fun z => absurd rfl z)
theorem lc_9 {i : Nat} (K : Cx ω κ l yL_law cL_law 4 d) (hd : 20 ≤ d) (hX : Scr ω κ b Ln xs) (hi : i + 6 ≤ Ln) (hL : Ln ≤ 3072) (hA : AO a) (hR : RC a σ) (hM : RM a σ) (nxt : ∀ a' σ', AO a' → RC a' σ' → RM a' σ' → V ω κ 1032 (LcL ω b i) [] σ') : V ω κ 473 (LcL ω b i) [] σ := by
  refine V_aload_n 1 K dL_law_473 rfl rfl ?_
  refine V_arg 1 K hX hi hL dL_law_474 dL_law_475 dL_law_476 dL_law_477 dL_law_478 rfl (by omega) ?_
  refine V_callV (d' := 19) (As := [.int (xs (i + 1))]) (rest := []) K dL_law_479 cw_L_54 rfl rfl rfl (by omega) rfl (by simp [Value.category]) (c_ever K.wf (by omega) hA hR) (fun v σ1 h => ?_)
  obtain ⟨rfl, hR1, hE1⟩ := h
  have hM1 := hM.ec hE1
  refine V_aload_n 2 K dL_law_482 rfl rfl ?_
  refine V_arg 1 K hX hi hL dL_law_483 dL_law_484 dL_law_485 dL_law_486 dL_law_487 rfl (by omega) ?_
  refine V_callV (d' := 19) (As := [.int (xs (i + 1))]) (rest := [.int _]) K dL_law_488 cw_L_57 rfl rfl rfl (by omega) rfl (by simp [Value.category]) (d_ever K.wf (by omega) hA hM1) (fun v σ2 h => ?_)
  obtain ⟨rfl, hM2, hE2⟩ := h
  exact V_icmp_eq (tgt := 1032) K dL_law_491 (by decide) (fun _ => nxt _ σ2 hA (hR1.em hE2) hM2) (fun z => absurd rfl z)
theorem lc_10 {i : Nat} (K : Cx ω κ l yL_law cL_law 4 d) (hd : 20 ≤ d) (hX : Scr ω κ b Ln xs) (hi : i + 6 ≤ Ln) (hL : Ln ≤ 3072) (hA : AO a) (hR : RC a σ) (hM : RM a σ) (nxt : ∀ a' σ', AO a' → RC a' σ' → RM a' σ' → V ω κ 1032 (LcL ω b i) [] σ') : V ω κ 496 (LcL ω b i) [] σ := by
  refine V_aload_n 1 K dL_law_496 rfl rfl ?_
  refine V_arg 1 K hX hi hL dL_law_497 dL_law_498 dL_law_499 dL_law_500 dL_law_501 rfl (by omega) ?_
  refine V_callV (d' := 19) (As := [.int (xs (i + 1))]) (rest := []) K dL_law_502 cw_L_58 rfl rfl rfl (by omega) rfl (by simp [Value.category]) (c_often K.wf (by omega) hA hR) (fun v σ1 h => ?_)
  obtain ⟨rfl, hR1, hE1⟩ := h
  have hM1 := hM.ec hE1
  refine V_aload_n 2 K dL_law_505 rfl rfl ?_
  refine V_arg 1 K hX hi hL dL_law_506 dL_law_507 dL_law_508 dL_law_509 dL_law_510 rfl (by omega) ?_
  refine V_callV (d' := 19) (As := [.int (xs (i + 1))]) (rest := [.int _]) K dL_law_511 cw_L_61 rfl rfl rfl (by omega) rfl (by simp [Value.category]) (d_often K.wf (by omega) hA hM1) (fun v σ2 h => ?_)
  obtain ⟨rfl, hM2, hE2⟩ := h
  exact V_icmp_eq (tgt := 1032) K dL_law_514 (by decide) (fun _ => nxt _ σ2 hA (hR1.em hE2) hM2) (fun z => absurd rfl z)
theorem lc_11 {i : Nat} (K : Cx ω κ l yL_law cL_law 4 d) (hd : 20 ≤ d) (hX : Scr ω κ b Ln xs) (hi : i + 6 ≤ Ln) (hL : Ln ≤ 3072) (hA : AO a) (hR : RC a σ) (hM : RM a σ) (nxt : ∀ a' σ', AO a' → RC a' σ' → RM a' σ' → V ω κ 1032 (LcL ω b i) [] σ') : V ω κ 519 (LcL ω b i) [] σ := by
  refine V_aload_n 1 K dL_law_519 rfl rfl ?_
  refine V_arg 1 K hX hi hL dL_law_520 dL_law_521 dL_law_522 dL_law_523 dL_law_524 rfl (by omega) ?_
  refine V_arg 2 K hX hi hL dL_law_525 dL_law_526 dL_law_527 dL_law_528 dL_law_529 rfl (by omega) ?_
  refine V_callV (d' := 19) (As := [.int (xs (i + 1)), .int (xs (i + 2))]) (rest := []) K dL_law_530 cw_L_62 rfl rfl rfl (by omega) rfl (by simp [Value.category]) (c_sway K.wf (by omega) hA hR) (fun v σ1 h => ?_)
  obtain ⟨rfl, hR1, hE1⟩ := h
  have hM1 := hM.ec hE1
  refine V_aload_n 2 K dL_law_533 rfl rfl ?_
  refine V_arg 1 K hX hi hL dL_law_534 dL_law_535 dL_law_536 dL_law_537 dL_law_538 rfl (by omega) ?_
  refine V_arg 2 K hX hi hL dL_law_539 dL_law_540 dL_law_541 dL_law_542 dL_law_543 rfl (by omega) ?_
  refine V_callV (d' := 19) (As := [.int (xs (i + 1)), .int (xs (i + 2))]) (rest := [.int _]) K dL_law_544 cw_L_65 rfl rfl rfl (by omega) rfl (by simp [Value.category]) (d_sway K.wf (by omega) hA hM1) (fun v σ2 h => ?_)
  obtain ⟨rfl, hM2, hE2⟩ := h
  exact V_icmp_eq (tgt := 1032) K dL_law_547 (by decide) (fun _ => nxt _ σ2 hA (hR1.em hE2) hM2) (fun z => absurd rfl z)
theorem lc_12 {i : Nat} (K : Cx ω κ l yL_law cL_law 4 d) (hd : 20 ≤ d) (hX : Scr ω κ b Ln xs) (hi : i + 6 ≤ Ln) (hL : Ln ≤ 3072) (hA : AO a) (hR : RC a σ) (hM : RM a σ) (nxt : ∀ a' σ', AO a' → RC a' σ' → RM a' σ' → V ω κ 1032 (LcL ω b i) [] σ') : V ω κ 552 (LcL ω b i) [] σ := by
  refine V_aload_n 1 K dL_law_552 rfl rfl ?_
  refine V_arg 1 K hX hi hL dL_law_553 dL_law_554 dL_law_555 dL_law_556 dL_law_557 rfl (by omega) ?_
  refine V_arg 2 K hX hi hL dL_law_558 dL_law_559 dL_law_560 dL_law_561 dL_law_562 rfl (by omega) ?_
  refine V_callV (d' := 19) (As := [.int (xs (i + 1)), .int (xs (i + 2))]) (rest := []) K dL_law_563 cw_L_66 rfl rfl rfl (by omega) rfl (by simp [Value.category]) (c_orders K.wf (by omega) hA hR) (fun v σ1 h => ?_)
  obtain ⟨rfl, hR1, hE1⟩ := h
  have hM1 := hM.ec hE1
  refine V_aload_n 2 K dL_law_566 rfl rfl ?_
  refine V_arg 1 K hX hi hL dL_law_567 dL_law_568 dL_law_569 dL_law_570 dL_law_571 rfl (by omega) ?_
  refine V_arg 2 K hX hi hL dL_law_572 dL_law_573 dL_law_574 dL_law_575 dL_law_576 rfl (by omega) ?_
  refine V_callV (d' := 19) (As := [.int (xs (i + 1)), .int (xs (i + 2))]) (rest := [.int _]) K dL_law_577 cw_L_69 rfl rfl rfl (by omega) rfl (by simp [Value.category]) (d_orders K.wf (by omega) hA hM1) (fun v σ2 h => ?_)
  obtain ⟨rfl, hM2, hE2⟩ := h
  exact V_icmp_eq (tgt := 1032) K dL_law_580 (by decide) (fun _ => nxt _ σ2 hA (hR1.em hE2) hM2) (fun z => absurd rfl z)
theorem lc_13 {i : Nat} (K : Cx ω κ l yL_law cL_law 4 d) (hd : 20 ≤ d) (hX : Scr ω κ b Ln xs) (hi : i + 6 ≤ Ln) (hL : Ln ≤ 3072) (hA : AO a) (hR : RC a σ) (hM : RM a σ) (nxt : ∀ a' σ', AO a' → RC a' σ' → RM a' σ' → V ω κ 1032 (LcL ω b i) [] σ') : V ω κ 585 (LcL ω b i) [] σ := by
  refine V_aload_n 1 K dL_law_585 rfl rfl ?_
  refine V_arg 1 K hX hi hL dL_law_586 dL_law_587 dL_law_588 dL_law_589 dL_law_590 rfl (by omega) ?_
  refine V_callV (d' := 19) (As := [.int (xs (i + 1))]) (rest := []) K dL_law_591 cw_L_70 rfl rfl rfl (by omega) rfl (by simp [Value.category]) (c_key K.wf (by omega) hA hR) (fun v σ1 h => ?_)
  obtain ⟨rfl, hR1, hE1⟩ := h
  have hM1 := hM.ec hE1
  refine V_aload_n 2 K dL_law_594 rfl rfl ?_
  refine V_arg 1 K hX hi hL dL_law_595 dL_law_596 dL_law_597 dL_law_598 dL_law_599 rfl (by omega) ?_
  refine V_callV (d' := 19) (As := [.int (xs (i + 1))]) (rest := [.int _]) K dL_law_600 cw_L_73 rfl rfl rfl (by omega) rfl (by simp [Value.category]) (d_key K.wf (by omega) hA hM1) (fun v σ2 h => ?_)
  obtain ⟨rfl, hM2, hE2⟩ := h
  exact V_icmp_eq (tgt := 1032) K dL_law_603 (by decide) (fun _ => nxt _ σ2 hA (hR1.em hE2) hM2) (fun z => absurd rfl z)
theorem lc_14 {i : Nat} (K : Cx ω κ l yL_law cL_law 4 d) (hd : 20 ≤ d) (hX : Scr ω κ b Ln xs) (hi : i + 6 ≤ Ln) (hL : Ln ≤ 3072) (hA : AO a) (hR : RC a σ) (hM : RM a σ) (nxt : ∀ a' σ', AO a' → RC a' σ' → RM a' σ' → V ω κ 1032 (LcL ω b i) [] σ') : V ω κ 608 (LcL ω b i) [] σ := by
  refine V_aload_n 1 K dL_law_608 rfl rfl ?_
  refine V_arg 1 K hX hi hL dL_law_609 dL_law_610 dL_law_611 dL_law_612 dL_law_613 rfl (by omega) ?_
  refine V_callV (d' := 19) (As := [.int (xs (i + 1))]) (rest := []) K dL_law_614 cw_L_74 rfl rfl rfl (by omega) rfl (by simp [Value.category]) (c_lot K.wf (by omega) hA hR) (fun v σ1 h => ?_)
  obtain ⟨rfl, hR1, hE1⟩ := h
  have hM1 := hM.ec hE1
  refine V_aload_n 2 K dL_law_617 rfl rfl ?_
  refine V_arg 1 K hX hi hL dL_law_618 dL_law_619 dL_law_620 dL_law_621 dL_law_622 rfl (by omega) ?_
  refine V_callV (d' := 19) (As := [.int (xs (i + 1))]) (rest := [.long _]) K dL_law_623 cw_L_78 rfl rfl rfl (by omega) rfl (by simp [Value.category]) (d_lot K.wf (by omega) hA hM1) (fun v σ2 h => ?_)
  obtain ⟨rfl, hM2, hE2⟩ := h
  refine V_lcmp K dL_law_626 ?_
  exact V_if_eq (tgt := 1032) K dL_law_627 (by decide) (fun _ => nxt _ σ2 hA (hR1.em hE2) hM2) (fun z => absurd ((lg_cmp_eq _ _).mpr rfl) z)
theorem lc_15 {i : Nat} (K : Cx ω κ l yL_law cL_law 4 d) (hd : 20 ≤ d) (hX : Scr ω κ b Ln xs) (hi : i + 6 ≤ Ln) (hL : Ln ≤ 3072) (hA : AO a) (hR : RC a σ) (hM : RM a σ) (nxt : ∀ a' σ', AO a' → RC a' σ' → RM a' σ' → V ω κ 1032 (LcL ω b i) [] σ') : V ω κ 632 (LcL ω b i) [] σ := by
  refine V_aload_n 1 K dL_law_632 rfl rfl ?_
  refine V_arg 1 K hX hi hL dL_law_633 dL_law_634 dL_law_635 dL_law_636 dL_law_637 rfl (by omega) ?_
  refine V_arg 2 K hX hi hL dL_law_638 dL_law_639 dL_law_640 dL_law_641 dL_law_642 rfl (by omega) ?_
  refine V_arg 3 K hX hi hL dL_law_643 dL_law_644 dL_law_645 dL_law_646 dL_law_647 rfl (by omega) ?_
  refine V_callV (d' := 19) (As := [.int (xs (i + 1)), .int (xs (i + 2)), .int (xs (i + 3))]) (rest := []) K dL_law_648 cw_L_79 rfl rfl rfl (by omega) rfl (by simp [Value.category]) (c_fits K.wf (by omega) hA hR) (fun v σ1 h => ?_)
  obtain ⟨rfl, hR1, hE1⟩ := h
  have hM1 := hM.ec hE1
  refine V_aload_n 2 K dL_law_651 rfl rfl ?_
  refine V_arg 1 K hX hi hL dL_law_652 dL_law_653 dL_law_654 dL_law_655 dL_law_656 rfl (by omega) ?_
  refine V_arg 2 K hX hi hL dL_law_657 dL_law_658 dL_law_659 dL_law_660 dL_law_661 rfl (by omega) ?_
  refine V_arg 3 K hX hi hL dL_law_662 dL_law_663 dL_law_664 dL_law_665 dL_law_666 rfl (by omega) ?_
  refine V_callV (d' := 19) (As := [.int (xs (i + 1)), .int (xs (i + 2)), .int (xs (i + 3))]) (rest := [.int _]) K dL_law_667 cw_L_83 rfl rfl rfl (by omega) rfl (by simp [Value.category]) (d_fits K.wf (by omega) hA hM1) (fun v σ2 h => ?_)
  obtain ⟨rfl, hM2, hE2⟩ := h
  exact V_icmp_eq (tgt := 1032) K dL_law_670 (by decide) (fun _ => nxt _ σ2 (a_fits hA) (hR1.em hE2) hM2) (fun z => absurd rfl z)
theorem lc_16 {i : Nat} (K : Cx ω κ l yL_law cL_law 4 d) (hd : 20 ≤ d) (hX : Scr ω κ b Ln xs) (hi : i + 6 ≤ Ln) (hL : Ln ≤ 3072) (hA : AO a) (hR : RC a σ) (hM : RM a σ) (nxt : ∀ a' σ', AO a' → RC a' σ' → RM a' σ' → V ω κ 1032 (LcL ω b i) [] σ') : V ω κ 675 (LcL ω b i) [] σ := by
  refine V_aload_n 1 K dL_law_675 rfl rfl ?_
  refine V_callV (d' := 19) (As := []) (rest := []) K dL_law_676 cw_L_84 rfl rfl rfl (by omega) rfl (by simp [Value.category]) (c_safe K.wf (by omega) hA hR) (fun v σ1 h => ?_)
  obtain ⟨rfl, hR1, hE1⟩ := h
  have hM1 := hM.ec hE1
  refine V_aload_n 2 K dL_law_679 rfl rfl ?_
  refine V_callV (d' := 19) (As := []) (rest := [.int _]) K dL_law_680 cw_L_87 rfl rfl rfl (by omega) rfl (by simp [Value.category]) (d_safe K.wf (by omega) hA hM1) (fun v σ2 h => ?_)
  obtain ⟨rfl, hM2, hE2⟩ := h
  exact V_icmp_eq (tgt := 1032) K dL_law_683 (by decide) (fun _ => nxt _ σ2 hA (hR1.em hE2) hM2) (fun z => absurd rfl z)
theorem lc_17 {i : Nat} (K : Cx ω κ l yL_law cL_law 4 d) (hd : 20 ≤ d) (hX : Scr ω κ b Ln xs) (hi : i + 6 ≤ Ln) (hL : Ln ≤ 3072) (hA : AO a) (hR : RC a σ) (hM : RM a σ) (nxt : ∀ a' σ', AO a' → RC a' σ' → RM a' σ' → V ω κ 1032 (LcL ω b i) [] σ') : V ω κ 688 (LcL ω b i) [] σ := by
  refine V_aload_n 1 K dL_law_688 rfl rfl ?_
  refine V_arg 1 K hX hi hL dL_law_689 dL_law_690 dL_law_691 dL_law_692 dL_law_693 rfl (by omega) ?_
  refine V_arg 2 K hX hi hL dL_law_694 dL_law_695 dL_law_696 dL_law_697 dL_law_698 rfl (by omega) ?_
  refine V_arg 3 K hX hi hL dL_law_699 dL_law_700 dL_law_701 dL_law_702 dL_law_703 rfl (by omega) ?_
  refine V_callV (d' := 19) (As := [.int (xs (i + 1)), .int (xs (i + 2)), .int (xs (i + 3))]) (rest := []) K dL_law_704 cw_L_88 rfl rfl rfl (by omega) rfl (by simp [Value.category]) (c_sheet K.wf (by omega) hA hR) (fun v σ1 h => ?_)
  obtain ⟨rfl, hR1, hE1⟩ := h
  have hM1 := hM.ec hE1
  refine V_aload_n 2 K dL_law_707 rfl rfl ?_
  refine V_arg 1 K hX hi hL dL_law_708 dL_law_709 dL_law_710 dL_law_711 dL_law_712 rfl (by omega) ?_
  refine V_arg 2 K hX hi hL dL_law_713 dL_law_714 dL_law_715 dL_law_716 dL_law_717 rfl (by omega) ?_
  refine V_arg 3 K hX hi hL dL_law_718 dL_law_719 dL_law_720 dL_law_721 dL_law_722 rfl (by omega) ?_
  refine V_callV (d' := 19) (As := [.int (xs (i + 1)), .int (xs (i + 2)), .int (xs (i + 3))]) (rest := [.int _]) K dL_law_723 cw_L_91 rfl rfl rfl (by omega) rfl (by simp [Value.category]) (d_sheet K.wf (by omega) hA hM1) (fun v σ2 h => ?_)
  obtain ⟨rfl, hM2, hE2⟩ := h
  exact V_icmp_eq (tgt := 1032) K dL_law_726 (by decide) (fun _ => nxt _ σ2 (a_sheet hA) (hR1.em hE2) hM2) (fun z => absurd rfl z)
theorem lc_18 {i : Nat} (K : Cx ω κ l yL_law cL_law 4 d) (hd : 20 ≤ d) (hX : Scr ω κ b Ln xs) (hi : i + 6 ≤ Ln) (hL : Ln ≤ 3072) (hA : AO a) (hR : RC a σ) (hM : RM a σ) (nxt : ∀ a' σ', AO a' → RC a' σ' → RM a' σ' → V ω κ 1032 (LcL ω b i) [] σ') : V ω κ 731 (LcL ω b i) [] σ := by
  refine V_aload_n 1 K dL_law_731 rfl rfl ?_
  refine V_arg 1 K hX hi hL dL_law_732 dL_law_733 dL_law_734 dL_law_735 dL_law_736 rfl (by omega) ?_
  refine V_callV (d' := 19) (As := [.int (xs (i + 1))]) (rest := []) K dL_law_737 cw_L_92 rfl rfl rfl (by omega) rfl (by simp [Value.category]) (c_lose K.wf (by omega) hA hR) (fun v σ1 h => ?_)
  obtain ⟨rfl, hR1, hE1⟩ := h
  have hM1 := hM.ec hE1
  refine V_aload_n 2 K dL_law_740 rfl rfl ?_
  refine V_arg 1 K hX hi hL dL_law_741 dL_law_742 dL_law_743 dL_law_744 dL_law_745 rfl (by omega) ?_
  refine V_callV (d' := 19) (As := [.int (xs (i + 1))]) (rest := [.int _]) K dL_law_746 cw_L_95 rfl rfl rfl (by omega) rfl (by simp [Value.category]) (d_lose K.wf (by omega) hA hM1) (fun v σ2 h => ?_)
  obtain ⟨rfl, hM2, hE2⟩ := h
  exact V_icmp_eq (tgt := 1032) K dL_law_749 (by decide) (fun _ => nxt _ σ2 (a_lose hA) (hR1.em hE2) hM2) (fun z => absurd rfl z)
theorem lc_19 {i : Nat} (K : Cx ω κ l yL_law cL_law 4 d) (hd : 20 ≤ d) (hX : Scr ω κ b Ln xs) (hi : i + 6 ≤ Ln) (hL : Ln ≤ 3072) (hA : AO a) (hR : RC a σ) (hM : RM a σ) (nxt : ∀ a' σ', AO a' → RC a' σ' → RM a' σ' → V ω κ 1032 (LcL ω b i) [] σ') : V ω κ 754 (LcL ω b i) [] σ := by
  refine V_aload_n 1 K dL_law_754 rfl rfl ?_
  refine V_arg 1 K hX hi hL dL_law_755 dL_law_756 dL_law_757 dL_law_758 dL_law_759 rfl (by omega) ?_
  refine V_arg 2 K hX hi hL dL_law_760 dL_law_761 dL_law_762 dL_law_763 dL_law_764 rfl (by omega) ?_
  refine V_arg 3 K hX hi hL dL_law_765 dL_law_766 dL_law_767 dL_law_768 dL_law_769 rfl (by omega) ?_
  refine V_callV (d' := 19) (As := [.int (xs (i + 1)), .int (xs (i + 2)), .int (xs (i + 3))]) (rest := []) K dL_law_770 cw_L_96 rfl rfl rfl (by omega) rfl (by simp [Value.category]) (c_put K.wf (by omega) hA hR) (fun v σ1 h => ?_)
  obtain ⟨rfl, hR1, hE1⟩ := h
  have hM1 := hM.ec hE1
  refine V_aload_n 2 K dL_law_773 rfl rfl ?_
  refine V_arg 1 K hX hi hL dL_law_774 dL_law_775 dL_law_776 dL_law_777 dL_law_778 rfl (by omega) ?_
  refine V_arg 2 K hX hi hL dL_law_779 dL_law_780 dL_law_781 dL_law_782 dL_law_783 rfl (by omega) ?_
  refine V_arg 3 K hX hi hL dL_law_784 dL_law_785 dL_law_786 dL_law_787 dL_law_788 rfl (by omega) ?_
  refine V_callV (d' := 19) (As := [.int (xs (i + 1)), .int (xs (i + 2)), .int (xs (i + 3))]) (rest := [.int _]) K dL_law_789 cw_L_99 rfl rfl rfl (by omega) rfl (by simp [Value.category]) (d_put K.wf (by omega) hA hM1) (fun v σ2 h => ?_)
  obtain ⟨rfl, hM2, hE2⟩ := h
  exact V_icmp_eq (tgt := 1032) K dL_law_792 (by decide) (fun _ => nxt _ σ2 (a_put hA) (hR1.em hE2) hM2) (fun z => absurd rfl z)
theorem lc_20 {i : Nat} (K : Cx ω κ l yL_law cL_law 4 d) (hd : 20 ≤ d) (hX : Scr ω κ b Ln xs) (hi : i + 6 ≤ Ln) (hL : Ln ≤ 3072) (hA : AO a) (hR : RC a σ) (hM : RM a σ) (nxt : ∀ a' σ', AO a' → RC a' σ' → RM a' σ' → V ω κ 1032 (LcL ω b i) [] σ') : V ω κ 797 (LcL ω b i) [] σ := by
  refine V_aload_n 1 K dL_law_797 rfl rfl ?_
  refine V_arg 1 K hX hi hL dL_law_798 dL_law_799 dL_law_800 dL_law_801 dL_law_802 rfl (by omega) ?_
  refine V_arg 2 K hX hi hL dL_law_803 dL_law_804 dL_law_805 dL_law_806 dL_law_807 rfl (by omega) ?_
  refine V_arg 3 K hX hi hL dL_law_808 dL_law_809 dL_law_810 dL_law_811 dL_law_812 rfl (by omega) ?_
  refine V_callV (d' := 19) (As := [.int (xs (i + 1)), .int (xs (i + 2)), .int (xs (i + 3))]) (rest := []) K dL_law_813 cw_L_100 rfl rfl rfl (by omega) rfl (by simp [Value.category]) (c_cell K.wf (by omega) hA hR) (fun v σ1 h => ?_)
  obtain ⟨rfl, hR1, hE1⟩ := h
  have hM1 := hM.ec hE1
  refine V_aload_n 2 K dL_law_816 rfl rfl ?_
  refine V_arg 1 K hX hi hL dL_law_817 dL_law_818 dL_law_819 dL_law_820 dL_law_821 rfl (by omega) ?_
  refine V_arg 2 K hX hi hL dL_law_822 dL_law_823 dL_law_824 dL_law_825 dL_law_826 rfl (by omega) ?_
  refine V_arg 3 K hX hi hL dL_law_827 dL_law_828 dL_law_829 dL_law_830 dL_law_831 rfl (by omega) ?_
  refine V_callV (d' := 19) (As := [.int (xs (i + 1)), .int (xs (i + 2)), .int (xs (i + 3))]) (rest := [.long _]) K dL_law_832 cw_L_104 rfl rfl rfl (by omega) rfl (by simp [Value.category]) (d_cell K.wf (by omega) hA hM1) (fun v σ2 h => ?_)
  obtain ⟨rfl, hM2, hE2⟩ := h
  refine V_lcmp K dL_law_835 ?_
  exact V_if_eq (tgt := 1032) K dL_law_836 (by decide) (fun _ => nxt _ σ2 (a_cell hA) (hR1.em hE2) hM2) (fun z => absurd ((lg_cmp_eq _ _).mpr rfl) z)
theorem lc_21 {i : Nat} (K : Cx ω κ l yL_law cL_law 4 d) (hd : 20 ≤ d) (hX : Scr ω κ b Ln xs) (hi : i + 6 ≤ Ln) (hL : Ln ≤ 3072) (hA : AO a) (hR : RC a σ) (hM : RM a σ) (nxt : ∀ a' σ', AO a' → RC a' σ' → RM a' σ' → V ω κ 1032 (LcL ω b i) [] σ') : V ω κ 841 (LcL ω b i) [] σ := by
  refine V_aload_n 1 K dL_law_841 rfl rfl ?_
  refine V_arg 1 K hX hi hL dL_law_842 dL_law_843 dL_law_844 dL_law_845 dL_law_846 rfl (by omega) ?_
  refine V_arg 2 K hX hi hL dL_law_847 dL_law_848 dL_law_849 dL_law_850 dL_law_851 rfl (by omega) ?_
  refine V_arg 3 K hX hi hL dL_law_852 dL_law_853 dL_law_854 dL_law_855 dL_law_856 rfl (by omega) ?_
  refine V_arg 4 K hX hi hL dL_law_857 dL_law_858 dL_law_859 dL_law_860 dL_law_861 rfl (by omega) ?_
  refine V_arg 5 K hX hi hL dL_law_862 dL_law_863 dL_law_864 dL_law_865 dL_law_866 rfl (by omega) ?_
  refine V_callV (d' := 19) (As := [.int (xs (i + 1)), .int (xs (i + 2)), .int (xs (i + 3)), .int (xs (i + 4)), .int (xs (i + 5))]) (rest := []) K dL_law_867 cw_L_105 rfl rfl rfl (by omega) rfl (by simp [Value.category]) (c_copy K.wf (by omega) hA hR) (fun v σ1 h => ?_)
  obtain ⟨rfl, hR1, hE1⟩ := h
  have hM1 := hM.ec hE1
  refine V_aload_n 2 K dL_law_870 rfl rfl ?_
  refine V_arg 1 K hX hi hL dL_law_871 dL_law_872 dL_law_873 dL_law_874 dL_law_875 rfl (by omega) ?_
  refine V_arg 2 K hX hi hL dL_law_876 dL_law_877 dL_law_878 dL_law_879 dL_law_880 rfl (by omega) ?_
  refine V_arg 3 K hX hi hL dL_law_881 dL_law_882 dL_law_883 dL_law_884 dL_law_885 rfl (by omega) ?_
  refine V_arg 4 K hX hi hL dL_law_886 dL_law_887 dL_law_888 dL_law_889 dL_law_890 rfl (by omega) ?_
  refine V_arg 5 K hX hi hL dL_law_891 dL_law_892 dL_law_893 dL_law_894 dL_law_895 rfl (by omega) ?_
  refine V_callV (d' := 19) (As := [.int (xs (i + 1)), .int (xs (i + 2)), .int (xs (i + 3)), .int (xs (i + 4)), .int (xs (i + 5))]) (rest := [.int _]) K dL_law_896 cw_L_109 rfl rfl rfl (by omega) rfl (by simp [Value.category]) (d_copy K.wf (by omega) hA hM1) (fun v σ2 h => ?_)
  obtain ⟨rfl, hM2, hE2⟩ := h
  exact V_icmp_eq (tgt := 1032) K dL_law_899 (by decide) (fun _ => nxt _ σ2 (a_copy hA) (hR1.em hE2) hM2) (fun z => absurd rfl z)
theorem lc_22 {i : Nat} (K : Cx ω κ l yL_law cL_law 4 d) (hd : 20 ≤ d) (hX : Scr ω κ b Ln xs) (hi : i + 6 ≤ Ln) (hL : Ln ≤ 3072) (hA : AO a) (hR : RC a σ) (hM : RM a σ) (nxt : ∀ a' σ', AO a' → RC a' σ' → RM a' σ' → V ω κ 1032 (LcL ω b i) [] σ') : V ω κ 904 (LcL ω b i) [] σ := by
  refine V_aload_n 1 K dL_law_904 rfl rfl ?_
  refine V_arg 1 K hX hi hL dL_law_905 dL_law_906 dL_law_907 dL_law_908 dL_law_909 rfl (by omega) ?_
  refine V_callV (d' := 19) (As := [.int (xs (i + 1))]) (rest := []) K dL_law_910 cw_L_110 rfl rfl rfl (by omega) rfl (by simp [Value.category]) (c_tell K.wf (by omega) hA hR) (fun v σ1 h => ?_)
  obtain ⟨rfl, hR1, hE1⟩ := h
  have hM1 := hM.ec hE1
  refine V_aload_n 2 K dL_law_913 rfl rfl ?_
  refine V_arg 1 K hX hi hL dL_law_914 dL_law_915 dL_law_916 dL_law_917 dL_law_918 rfl (by omega) ?_
  refine V_callV (d' := 19) (As := [.int (xs (i + 1))]) (rest := [.int _]) K dL_law_919 cw_L_113 rfl rfl rfl (by omega) rfl (by simp [Value.category]) (d_tell K.wf (by omega) hA hM1) (fun v σ2 h => ?_)
  obtain ⟨rfl, hM2, hE2⟩ := h
  exact V_icmp_eq (tgt := 1032) K dL_law_922 (by decide) (fun _ => nxt _ σ2 (a_tell hA) (hR1.em hE2) hM2) (fun z => absurd rfl z)
theorem lc_23 {i : Nat} (K : Cx ω κ l yL_law cL_law 4 d) (hd : 20 ≤ d) (hX : Scr ω κ b Ln xs) (hi : i + 6 ≤ Ln) (hL : Ln ≤ 3072) (hA : AO a) (hR : RC a σ) (hM : RM a σ) (nxt : ∀ a' σ', AO a' → RC a' σ' → RM a' σ' → V ω κ 1032 (LcL ω b i) [] σ') : V ω κ 927 (LcL ω b i) [] σ := by
  refine V_aload_n 1 K dL_law_927 rfl rfl ?_
  refine V_arg 1 K hX hi hL dL_law_928 dL_law_929 dL_law_930 dL_law_931 dL_law_932 rfl (by omega) ?_
  refine V_callV (d' := 19) (As := [.int (xs (i + 1))]) (rest := []) K dL_law_933 cw_L_114 rfl rfl rfl (by omega) rfl (by simp [Value.category]) (c_swear K.wf (by omega) hA hR) (fun v σ1 h => ?_)
  obtain ⟨rfl, hR1, hE1⟩ := h
  have hM1 := hM.ec hE1
  refine V_aload_n 2 K dL_law_936 rfl rfl ?_
  refine V_arg 1 K hX hi hL dL_law_937 dL_law_938 dL_law_939 dL_law_940 dL_law_941 rfl (by omega) ?_
  refine V_callV (d' := 19) (As := [.int (xs (i + 1))]) (rest := [.int _]) K dL_law_942 cw_L_117 rfl rfl rfl (by omega) rfl (by simp [Value.category]) (d_swear K.wf (by omega) hA hM1) (fun v σ2 h => ?_)
  obtain ⟨rfl, hM2, hE2⟩ := h
  exact V_icmp_eq (tgt := 1032) K dL_law_945 (by decide) (fun _ => nxt _ σ2 (a_swear hA) (hR1.em hE2) hM2) (fun z => absurd rfl z)
theorem lc_24 {i : Nat} (K : Cx ω κ l yL_law cL_law 4 d) (hd : 20 ≤ d) (hX : Scr ω κ b Ln xs) (hi : i + 6 ≤ Ln) (hL : Ln ≤ 3072) (hA : AO a) (hR : RC a σ) (hM : RM a σ) (nxt : ∀ a' σ', AO a' → RC a' σ' → RM a' σ' → V ω κ 1032 (LcL ω b i) [] σ') : V ω κ 950 (LcL ω b i) [] σ := by
  refine V_aload_n 1 K dL_law_950 rfl rfl ?_
  refine V_arg 1 K hX hi hL dL_law_951 dL_law_952 dL_law_953 dL_law_954 dL_law_955 rfl (by omega) ?_
  refine V_arg 2 K hX hi hL dL_law_956 dL_law_957 dL_law_958 dL_law_959 dL_law_960 rfl (by omega) ?_
  refine V_callV (d' := 19) (As := [.int (xs (i + 1)), .int (xs (i + 2))]) (rest := []) K dL_law_961 cw_L_118 rfl rfl rfl (by omega) rfl (by simp [Value.category]) (c_as K.wf (by omega) hA hR) (fun v σ1 h => ?_)
  obtain ⟨rfl, hR1, hE1⟩ := h
  have hM1 := hM.ec hE1
  refine V_aload_n 2 K dL_law_964 rfl rfl ?_
  refine V_arg 1 K hX hi hL dL_law_965 dL_law_966 dL_law_967 dL_law_968 dL_law_969 rfl (by omega) ?_
  refine V_arg 2 K hX hi hL dL_law_970 dL_law_971 dL_law_972 dL_law_973 dL_law_974 rfl (by omega) ?_
  refine V_callV (d' := 19) (As := [.int (xs (i + 1)), .int (xs (i + 2))]) (rest := [.int _]) K dL_law_975 cw_L_121 rfl rfl rfl (by omega) rfl (by simp [Value.category]) (d_as K.wf (by omega) hA hM1) (fun v σ2 h => ?_)
  obtain ⟨rfl, hM2, hE2⟩ := h
  exact V_icmp_eq (tgt := 1032) K dL_law_978 (by decide) (fun _ => nxt _ σ2 (a_as hA) (hR1.em hE2) hM2) (fun z => absurd rfl z)
theorem lc_25 {i : Nat} (K : Cx ω κ l yL_law cL_law 4 d) (hd : 20 ≤ d) (hX : Scr ω κ b Ln xs) (hi : i + 6 ≤ Ln) (hL : Ln ≤ 3072) (hA : AO a) (hR : RC a σ) (hM : RM a σ) (nxt : ∀ a' σ', AO a' → RC a' σ' → RM a' σ' → V ω κ 1032 (LcL ω b i) [] σ') : V ω κ 983 (LcL ω b i) [] σ := by
  refine V_aload_n 1 K dL_law_983 rfl rfl ?_
  refine V_callV (d' := 19) (As := []) (rest := []) K dL_law_984 cw_L_122 rfl rfl rfl (by omega) rfl (by simp [Value.category]) (c_trace K.wf hR) (fun v σ1 h => ?_)
  obtain ⟨rfl, hR1, hE1⟩ := h
  have hM1 := hM.ec hE1
  refine V_aload_n 2 K dL_law_987 rfl rfl ?_
  refine V_callV (d' := 19) (As := []) (rest := [.int _]) K dL_law_988 cw_L_125 rfl rfl rfl (by omega) rfl (by simp [Value.category]) (d_trace K.wf hM1) (fun v σ2 h => ?_)
  obtain ⟨rfl, hM2, hE2⟩ := h
  exact V_icmp_eq (tgt := 1032) K dL_law_991 (by decide) (fun _ => nxt _ σ2 hA (hR1.em hE2) hM2) (fun z => absurd rfl z)
theorem lc_26 {i : Nat} (K : Cx ω κ l yL_law cL_law 4 d) (hd : 20 ≤ d) (hX : Scr ω κ b Ln xs) (hi : i + 6 ≤ Ln) (hL : Ln ≤ 3072) (hA : AO a) (hR : RC a σ) (hM : RM a σ) (nxt : ∀ a' σ', AO a' → RC a' σ' → RM a' σ' → V ω κ 1032 (LcL ω b i) [] σ') : V ω κ 996 (LcL ω b i) [] σ := by
  refine V_aload_n 1 K dL_law_996 rfl rfl ?_
  refine V_callV (d' := 19) (As := []) (rest := []) K dL_law_997 cw_L_126 rfl rfl rfl (by omega) rfl (by simp [Value.category]) (c_fault K.wf hR) (fun v σ1 h => ?_)
  obtain ⟨rfl, hR1, hE1⟩ := h
  have hM1 := hM.ec hE1
  refine V_aload_n 2 K dL_law_1000 rfl rfl ?_
  refine V_callV (d' := 19) (As := []) (rest := [.int _]) K dL_law_1001 cw_L_129 rfl rfl rfl (by omega) rfl (by simp [Value.category]) (d_fault K.wf hM1) (fun v σ2 h => ?_)
  obtain ⟨rfl, hM2, hE2⟩ := h
  exact V_icmp_eq (tgt := 1032) K dL_law_1004 (by decide) (fun _ => nxt _ σ2 hA (hR1.em hE2) hM2) (fun z => absurd rfl z)
theorem lc_27 {i : Nat} (K : Cx ω κ l yL_law cL_law 4 d) (hd : 20 ≤ d) (hX : Scr ω κ b Ln xs) (hi : i + 6 ≤ Ln) (hL : Ln ≤ 3072) (hA : AO a) (hR : RC a σ) (hM : RM a σ) (nxt : ∀ a' σ', AO a' → RC a' σ' → RM a' σ' → V ω κ 1032 (LcL ω b i) [] σ') : V ω κ 1009 (LcL ω b i) [] σ := by
  refine V_aload_n 1 K dL_law_1009 rfl rfl ?_
  refine V_arg 1 K hX hi hL dL_law_1010 dL_law_1011 dL_law_1012 dL_law_1013 dL_law_1014 rfl (by omega) ?_
  refine V_callV (d' := 19) (As := [.int (xs (i + 1))]) (rest := []) K dL_law_1015 cw_L_130 rfl rfl rfl (by omega) rfl (by simp [Value.category]) (c_many K.wf hR) (fun v σ1 h => ?_)
  obtain ⟨rfl, hR1, hE1⟩ := h
  have hM1 := hM.ec hE1
  refine V_aload_n 2 K dL_law_1018 rfl rfl ?_
  refine V_arg 1 K hX hi hL dL_law_1019 dL_law_1020 dL_law_1021 dL_law_1022 dL_law_1023 rfl (by omega) ?_
  refine V_callV (d' := 19) (As := [.int (xs (i + 1))]) (rest := [.int _]) K dL_law_1024 cw_L_133 rfl rfl rfl (by omega) rfl (by simp [Value.category]) (d_many K.wf hM1) (fun v σ2 h => ?_)
  obtain ⟨rfl, hM2, hE2⟩ := h
  exact V_icmp_eq (tgt := 1032) K dL_law_1027 (by decide) (fun _ => nxt _ σ2 hA (hR1.em hE2) hM2) (fun z => absurd rfl z)
theorem low5 (x : Int32) : ∃ r, r < 32 ∧ x &&& 31 = nI r := by
  refine ⟨x.toBitVec.toNat % 2 ^ 5, Nat.mod_lt _ (by decide), ?_⟩
  rw [← fa_mask, ← nI_self]
  rfl
theorem law_loop (K : Cx ω κ l yL_law cL_law 4 d) (hd : 20 ≤ d) (hX : Scr ω κ b Ln xs) (hL : Ln ≤ 3072) (fin : ∀ i σ, V ω κ 1038 (LcL ω b i) [] σ) : ∀ n i a σ, Ln < i + n → AO a → RC a σ → RM a σ → i ≤ 4000 → V ω κ 18 (LcL ω b i) [] σ
  | 0, i, a, σ, hn, hA, hR, hM, hi4 => by
    refine V_iload_n 3 K dL_law_18 rfl rfl ?_
    refine V_aload_n 0 K dL_law_19 rfl rfl ?_
    refine V_slen K hX dL_law_20 ?_
    refine V_bipush K dL_law_21 rfl ?_
    refine V_isub K dL_law_23 ?_
    refine V_icmp_gt (tgt := 1038) K dL_law_24 (by decide) (fun _ => fin i σ) (fun z => ?_)
    exfalso
    refine z ?_
    rw [fa_lt, show (Int8.ofInt 6).toInt32 = nI 6 from rfl, pk_sub_toInt (by omega) (by omega), nI_toInt (by omega)]
    omega
  | n + 1, i, a, σ, hn, hA, hR, hM, hi4 => by
    refine V_iload_n 3 K dL_law_18 rfl rfl ?_
    refine V_aload_n 0 K dL_law_19 rfl rfl ?_
    refine V_slen K hX dL_law_20 ?_
    refine V_bipush K dL_law_21 rfl ?_
    refine V_isub K dL_law_23 ?_
    refine V_icmp_gt (tgt := 1038) K dL_law_24 (by decide) (fun _ => fin i σ) (fun z => ?_)
    have hi : i + 6 ≤ Ln := by
      refine Classical.byContradiction fun q => z ?_
      rw [fa_lt, show (Int8.ofInt 6).toInt32 = nI 6 from rfl, pk_sub_toInt (by omega) (by omega), nI_toInt (by omega)]
      omega
    refine V_aload_n 0 K dL_law_27 rfl rfl ?_
    refine V_iload_n 3 K dL_law_28 rfl rfl ?_
    refine V_sld K hX dL_law_29 (vp_in_nI (by omega) (by omega)) ?_
    refine V_bipush (v := 31) K dL_law_30 rfl ?_
    refine V_iand K dL_law_32 ?_
    have nxt : ∀ a' σ', AO a' → RC a' σ' → RM a' σ' → V ω κ 1032 (LcL ω b i) [] σ' := by
      intro a' σ' hA' hR' hM'
      refine V_iinc (v := nI (i + 6)) (L' := LcL ω b (i + 6)) 3 K dL_law_1032 rfl (nI_add i 6) (by decide) rfl ?_
      refine V_goto (tgt := 18) K dL_law_1035 (by decide) ?_
      exact law_loop K hd hX hL fin n (i + 6) a' σ' (by omega) hA' hR' hM' (by omega)
    obtain ⟨r, hr, er⟩ := low5 (xs (nI i).toNatClampNeg)
    rw [er]
    have hcs : r = 0 ∨ r = 1 ∨ r = 2 ∨ r = 3 ∨ r = 4 ∨ r = 5 ∨ r = 6 ∨ r = 7 ∨ r = 8 ∨ r = 9 ∨ r = 10 ∨ r = 11 ∨ r = 12 ∨ r = 13 ∨ r = 14 ∨ r = 15 ∨ r = 16 ∨ r = 17 ∨ r = 18 ∨ r = 19 ∨ r = 20 ∨ r = 21 ∨ r = 22 ∨ r = 23 ∨ r = 24 ∨ r = 25 ∨ r = 26 ∨ r = 27 ∨ r = 28 ∨ r = 29 ∨ r = 30 ∨ r = 31 := by omega
    rcases hcs with rfl | rfl | rfl | rfl | rfl | rfl | rfl | rfl | rfl | rfl | rfl | rfl | rfl | rfl | rfl | rfl | rfl | rfl | rfl | rfl | rfl | rfl | rfl | rfl | rfl | rfl | rfl | rfl | rfl | rfl | rfl | rfl
    · exact V_tableIn (off := 127) (tgt := 160) K dL_law_33 (by decide) (by decide) (by decide) (by decide) (lc_0 K hd hX hi hL hA hR hM nxt)
    · exact V_tableIn (off := 180) (tgt := 213) K dL_law_33 (by decide) (by decide) (by decide) (by decide) (lc_1 K hd hX hi hL hA hR hM nxt)
    · exact V_tableIn (off := 213) (tgt := 246) K dL_law_33 (by decide) (by decide) (by decide) (by decide) (lc_2 K hd hX hi hL hA hR hM nxt)
    · exact V_tableIn (off := 272) (tgt := 305) K dL_law_33 (by decide) (by decide) (by decide) (by decide) (lc_3 K hd hX hi hL hA hR hM nxt)
    · exact V_tableIn (off := 295) (tgt := 328) K dL_law_33 (by decide) (by decide) (by decide) (by decide) (lc_4 K hd hX hi hL hA hR hM nxt)
    · exact V_tableIn (off := 318) (tgt := 351) K dL_law_33 (by decide) (by decide) (by decide) (by decide) (lc_5 K hd hX hi hL hA hR hM nxt)
    · exact V_tableIn (off := 371) (tgt := 404) K dL_law_33 (by decide) (by decide) (by decide) (by decide) (lc_6 K hd hX hi hL hA hR hM nxt)
    · exact V_tableIn (off := 404) (tgt := 437) K dL_law_33 (by decide) (by decide) (by decide) (by decide) (lc_7 K hd hX hi hL hA hR hM nxt)
    · exact V_tableIn (off := 427) (tgt := 460) K dL_law_33 (by decide) (by decide) (by decide) (by decide) (lc_8 K hd hX hi hL hA hR hM nxt)
    · exact V_tableIn (off := 440) (tgt := 473) K dL_law_33 (by decide) (by decide) (by decide) (by decide) (lc_9 K hd hX hi hL hA hR hM nxt)
    · exact V_tableIn (off := 463) (tgt := 496) K dL_law_33 (by decide) (by decide) (by decide) (by decide) (lc_10 K hd hX hi hL hA hR hM nxt)
    · exact V_tableIn (off := 486) (tgt := 519) K dL_law_33 (by decide) (by decide) (by decide) (by decide) (lc_11 K hd hX hi hL hA hR hM nxt)
    · exact V_tableIn (off := 519) (tgt := 552) K dL_law_33 (by decide) (by decide) (by decide) (by decide) (lc_12 K hd hX hi hL hA hR hM nxt)
    · exact V_tableIn (off := 552) (tgt := 585) K dL_law_33 (by decide) (by decide) (by decide) (by decide) (lc_13 K hd hX hi hL hA hR hM nxt)
    · exact V_tableIn (off := 575) (tgt := 608) K dL_law_33 (by decide) (by decide) (by decide) (by decide) (lc_14 K hd hX hi hL hA hR hM nxt)
    · exact V_tableIn (off := 599) (tgt := 632) K dL_law_33 (by decide) (by decide) (by decide) (by decide) (lc_15 K hd hX hi hL hA hR hM nxt)
    · exact V_tableIn (off := 642) (tgt := 675) K dL_law_33 (by decide) (by decide) (by decide) (by decide) (lc_16 K hd hX hi hL hA hR hM nxt)
    · exact V_tableIn (off := 655) (tgt := 688) K dL_law_33 (by decide) (by decide) (by decide) (by decide) (lc_17 K hd hX hi hL hA hR hM nxt)
    · exact V_tableIn (off := 698) (tgt := 731) K dL_law_33 (by decide) (by decide) (by decide) (by decide) (lc_18 K hd hX hi hL hA hR hM nxt)
    · exact V_tableIn (off := 721) (tgt := 754) K dL_law_33 (by decide) (by decide) (by decide) (by decide) (lc_19 K hd hX hi hL hA hR hM nxt)
    · exact V_tableIn (off := 764) (tgt := 797) K dL_law_33 (by decide) (by decide) (by decide) (by decide) (lc_20 K hd hX hi hL hA hR hM nxt)
    · exact V_tableIn (off := 808) (tgt := 841) K dL_law_33 (by decide) (by decide) (by decide) (by decide) (lc_21 K hd hX hi hL hA hR hM nxt)
    · exact V_tableIn (off := 871) (tgt := 904) K dL_law_33 (by decide) (by decide) (by decide) (by decide) (lc_22 K hd hX hi hL hA hR hM nxt)
    · exact V_tableIn (off := 894) (tgt := 927) K dL_law_33 (by decide) (by decide) (by decide) (by decide) (lc_23 K hd hX hi hL hA hR hM nxt)
    · exact V_tableIn (off := 917) (tgt := 950) K dL_law_33 (by decide) (by decide) (by decide) (by decide) (lc_24 K hd hX hi hL hA hR hM nxt)
    · exact V_tableIn (off := 950) (tgt := 983) K dL_law_33 (by decide) (by decide) (by decide) (by decide) (lc_25 K hd hX hi hL hA hR hM nxt)
    · exact V_tableIn (off := 963) (tgt := 996) K dL_law_33 (by decide) (by decide) (by decide) (by decide) (lc_26 K hd hX hi hL hA hR hM nxt)
    · exact V_tableIn (off := 976) (tgt := 1009) K dL_law_33 (by decide) (by decide) (by decide) (by decide) (lc_27 K hd hX hi hL hA hR hM nxt)
    · exact V_tableOut (tgt := 1032) K dL_law_33 (Or.inr (by decide)) (by decide) (nxt a σ hA hR hM)
    · exact V_tableOut (tgt := 1032) K dL_law_33 (Or.inr (by decide)) (by decide) (nxt a σ hA hR hM)
    · exact V_tableOut (tgt := 1032) K dL_law_33 (Or.inr (by decide)) (by decide) (nxt a σ hA hR hM)
    · exact V_tableOut (tgt := 1032) K dL_law_33 (Or.inr (by decide)) (by decide) (nxt a σ hA hR hM)
end LAW
