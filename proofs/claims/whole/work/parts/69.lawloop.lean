section LAWLOOP
def mL (nm : String) : MD := (⟨RL, nm, "([I)Z"⟩, cL_law, 4, some .boolean)
def LVi (i : Nat) : List (Nat × Value) := [(0, .long 0), (1, .ref 1), (2, .ref 122), (3, .int (nI i))]
variable {l : Launch} {p : Program} {e : Env} {s : State} {m : MethodId} {below : List Frame} {meth : Method} {c : Code} {z b NN : Nat} {xs : Nat → Int32} {D : va_G} {cy : Nat → ClassId} {nm : String} {rc rs : Nat} {pc : Nat} {st : List Value} {T : SH} {F : MI} {G : MN} {A : MI} {B : MN} {w : Nat → Nat} {nb : Nat}
theorem lz_arg {i j : Nat} {n : Int} (h0 : decode cL_law pc = .ok (.aload_n 0, 1)) (h1 : decode cL_law (pc + 1) = .ok (.iload_n 3, 1)) (h2 : decode cL_law (pc + 1 + 1) = .ok (.iconst n, 1)) (h3 : decode cL_law (pc + 1 + 1 + 1) = .ok (.iadd, 1)) (h4 : decode cL_law (pc + 1 + 1 + 1 + 1) = .ok (.iaload, 1)) (hn : Int32.ofInt n = nI j) (hin : i + j < NN) (hNN : NN ≤ 3072)
    (kk : ZL l p e s m below meth c z b NN xs D cy (mL nm) rc rs (pc + 5) (LVi i) (.int (xs (i + j)) :: st) T F G A B) : ZL l p e s m below meth c z b NN xs D cy (mL nm) rc rs pc (LVi i) st T F G A B := by
  refine lz_aload_nS (x := 0) (i := 0) h0 0 rfl rfl ?_
  refine lz_iload_n (x := nI i) (i := 3) h1 3 rfl rfl ?_
  refine lz_iconst (v := nI j) h2 hn ?_
  refine lz_iadd h3 ?_
  rw [nI_add]
  refine lz_sld (vp_in_nI hin (by omega)) h4 ?_
  rw [nI_clamp (by omega)]
  exact kk
/-- what the loop goes on with -/
def NXT (l : Launch) (p : Program) (e : Env) (s : State) (m : MethodId) (below : List Frame) (meth : Method) (c : Code) (z b NN : Nat) (xs : Nat → Int32) (D : va_G) (cy : Nat → ClassId) (nm : String) (rc rs i : Nat) : Prop :=
  ∀ (w : Nat → Nat) (nb : Nat) (T : SH) (F : MI) (G : MN) (A : MI) (B : MN), LY w nb T G B → TW w → Inv w nb F A → ZL l p e s m below meth c z b NN xs D cy (mL nm) rc rs 825 (LVi i) [] T F G A B
theorem law_feed {i : Nat} (hi : i + 6 ≤ NN) (hNN : NN ≤ 3072) (hY : LY w nb T G B) (hw : TW w) (hI : Inv w nb F A) (kk : NXT l p e s m below meth c z b NN xs D cy nm rc rs i) : ZL l p e s m below meth c z b NN xs D cy (mL nm) (rc + 2) (rs + 8) 132 (LVi i) [] T F G A B := by
  refine lz_aload_n (x := 1) (i := 1) dL_law_132 1 rfl rfl ?_
  refine lz_arg (j := 1) dL_law_133 dL_law_134 dL_law_135 dL_law_136 dL_law_137 rfl (by omega) hNN ?_
  refine lz_arg (j := 2) dL_law_138 dL_law_139 dL_law_140 dL_law_141 dL_law_142 rfl (by omega) hNN ?_
  refine lz_arg (j := 3) dL_law_143 dL_law_144 dL_law_145 dL_law_146 dL_law_147 rfl (by omega) hNN ?_
  refine lz_arg (j := 4) dL_law_148 dL_law_149 dL_law_150 dL_law_151 dL_law_152 rfl (by omega) hNN ?_
  refine lz_arg (j := 5) dL_law_153 dL_law_154 dL_law_155 dL_law_156 dL_law_157 rfl (by omega) hNN ?_
  refine lz_callV (ac' := 0) (az' := 0) (rc' := rc + 2) (rs' := rs + 8) (L' := 2) (ci := 7) (As := [.int (xs (i + 1)), .int (xs (i + 2)), .int (xs (i + 3)), .int (xs (i + 4)), .int (xs (i + 5))]) (rest := []) dL_law_158 okX7_feed ioX7_feed mk_L_13 rfl (by decide) (lat hY rfl) rfl rfl (by decide) (by decide) (by omega) (by omega) (cm_Z hY (op_feed hw hI) (fun v F2 A2 q => ?_))
  obtain ⟨r, rfl, q⟩ := q
  refine lz_aload_n (st := [.int r]) (x := 122) (i := 2) dL_law_161 2 rfl rfl ?_
  refine lz_arg (j := 1) dL_law_162 dL_law_163 dL_law_164 dL_law_165 dL_law_166 rfl (by omega) hNN ?_
  refine lz_arg (j := 2) dL_law_167 dL_law_168 dL_law_169 dL_law_170 dL_law_171 rfl (by omega) hNN ?_
  refine lz_arg (j := 3) dL_law_172 dL_law_173 dL_law_174 dL_law_175 dL_law_176 rfl (by omega) hNN ?_
  refine lz_arg (j := 4) dL_law_177 dL_law_178 dL_law_179 dL_law_180 dL_law_181 rfl (by omega) hNN ?_
  refine lz_arg (j := 5) dL_law_182 dL_law_183 dL_law_184 dL_law_185 dL_law_186 rfl (by omega) hNN ?_
  refine lz_callV (ac' := 0) (az' := 0) (rc' := rc + 2) (rs' := rs + 8) (L' := 2) (ci := 8) (As := [.int (xs (i + 1)), .int (xs (i + 2)), .int (xs (i + 3)), .int (xs (i + 4)), .int (xs (i + 5))]) (rest := [.int r]) dL_law_187 okX8_feed ioX8_feed mk_L_17 rfl (by decide) (lat hY rfl) rfl rfl (Nat.le_of_ble_eq_true rfl) (by decide) (by omega) (by omega) (cm_Z hY q (fun v F3 A3 q => ?_))
  obtain ⟨r2, rfl, er, hI3⟩ := q
  refine lz_icmp_eq (x := r) (y := r2) (st := []) (tgt := 825) dL_law_190 (by decide) (fun _ => ?_) (fun h => absurd er h)
  exact lz_room (by omega) (by omega) (kk w nb T F3 G A3 B hY hw hI3)
theorem law_text {i : Nat} (hi : i + 6 ≤ NN) (hNN : NN ≤ 3072) (hY : LY w nb T G B) (hw : TW w) (hI : Inv w nb F A) (kk : NXT l p e s m below meth c z b NN xs D cy nm rc rs i) : ZL l p e s m below meth c z b NN xs D cy (mL nm) (rc + 2) (rs + 8) 195 (LVi i) [] T F G A B := by
  refine lz_aload_n (x := 1) (i := 1) dL_law_195 1 rfl rfl ?_
  refine lz_arg (j := 1) dL_law_196 dL_law_197 dL_law_198 dL_law_199 dL_law_200 rfl (by omega) hNN ?_
  refine lz_arg (j := 2) dL_law_201 dL_law_202 dL_law_203 dL_law_204 dL_law_205 rfl (by omega) hNN ?_
  refine lz_callV (ac' := 0) (az' := 0) (rc' := rc + 2) (rs' := rs + 8) (L' := 8) (ci := 7) (As := [.int (xs (i + 1)), .int (xs (i + 2))]) (rest := []) dL_law_206 okX7_text ioX7_text mk_L_18 rfl (by decide) (lat hY rfl) rfl rfl (by decide) (by decide) (by omega) (by omega) ((op_text hw hI hY).mono (fun v T2 F2 G2 A2 B2 q => ?_))
  obtain ⟨rfl, rfl, r, w2, rfl, hY2, hw2, q⟩ := q
  refine lz_aload_n (st := [.int r]) (x := 122) (i := 2) dL_law_209 2 rfl rfl ?_
  refine lz_arg (j := 1) dL_law_210 dL_law_211 dL_law_212 dL_law_213 dL_law_214 rfl (by omega) hNN ?_
  refine lz_arg (j := 2) dL_law_215 dL_law_216 dL_law_217 dL_law_218 dL_law_219 rfl (by omega) hNN ?_
  refine lz_callV (ac' := 0) (az' := 0) (rc' := rc + 2) (rs' := rs + 8) (L' := 6) (ci := 8) (As := [.int (xs (i + 1)), .int (xs (i + 2))]) (rest := [.int r]) dL_law_220 okX8_text ioX8_text mk_L_22 rfl (by decide) (lat hY2 rfl) rfl rfl (Nat.le_of_ble_eq_true rfl) (by decide) (by omega) (by omega) (cm_Z hY2 q (fun v F3 A3 q => ?_))
  obtain ⟨r2, rfl, er, hI3⟩ := q
  refine lz_icmp_eq (x := r) (y := r2) (st := []) (tgt := 825) dL_law_223 (by decide) (fun _ => ?_) (fun h => absurd er h)
  exact lz_room (by omega) (by omega) (kk w2 nb _ F3 G2 A3 _ hY2 hw2 hI3)
theorem law_beast {i : Nat} (hi : i + 6 ≤ NN) (hNN : NN ≤ 3072) (hY : LY w nb T G B) (hw : TW w) (hI : Inv w nb F A) (kk : NXT l p e s m below meth c z b NN xs D cy nm rc rs i) : ZL l p e s m below meth c z b NN xs D cy (mL nm) (rc + 2) (rs + 8) 228 (LVi i) [] T F G A B := by
  refine lz_aload_n (x := 1) (i := 1) dL_law_228 1 rfl rfl ?_
  refine lz_arg (j := 1) dL_law_229 dL_law_230 dL_law_231 dL_law_232 dL_law_233 rfl (by omega) hNN ?_
  refine lz_arg (j := 2) dL_law_234 dL_law_235 dL_law_236 dL_law_237 dL_law_238 rfl (by omega) hNN ?_
  refine lz_arg (j := 3) dL_law_239 dL_law_240 dL_law_241 dL_law_242 dL_law_243 rfl (by omega) hNN ?_
  refine lz_arg (j := 4) dL_law_244 dL_law_245 dL_law_246 dL_law_247 dL_law_248 rfl (by omega) hNN ?_
  refine lz_callV (ac' := 2) (az' := 8) (rc' := rc) (rs' := rs) (L' := 2) (ci := 7) (As := [.int (xs (i + 1)), .int (xs (i + 2)), .int (xs (i + 3)), .int (xs (i + 4))]) (rest := []) dL_law_249 okX7_beast ioX7_beast mk_L_23 rfl (by decide) (lat hY rfl) rfl rfl (by decide) (by decide) (by omega) (by omega) ((op_beast hw hI hY).mono (fun v T2 F2 G2 A2 B2 q => ?_))
  obtain ⟨r, nb2, rfl, hY2, q⟩ := q
  refine lz_aload_n (st := [.int r]) (x := 122) (i := 2) dL_law_252 2 rfl rfl ?_
  refine lz_arg (j := 1) dL_law_253 dL_law_254 dL_law_255 dL_law_256 dL_law_257 rfl (by omega) hNN ?_
  refine lz_arg (j := 2) dL_law_258 dL_law_259 dL_law_260 dL_law_261 dL_law_262 rfl (by omega) hNN ?_
  refine lz_arg (j := 3) dL_law_263 dL_law_264 dL_law_265 dL_law_266 dL_law_267 rfl (by omega) hNN ?_
  refine lz_arg (j := 4) dL_law_268 dL_law_269 dL_law_270 dL_law_271 dL_law_272 rfl (by omega) hNN ?_
  refine lz_callV (ac' := 0) (az' := 0) (rc' := rc) (rs' := rs) (L' := 2) (ci := 8) (As := [.int (xs (i + 1)), .int (xs (i + 2)), .int (xs (i + 3)), .int (xs (i + 4))]) (rest := [.int r]) dL_law_273 okX8_beast ioX8_beast mk_L_27 rfl (by decide) (lat hY2 rfl) rfl rfl (Nat.le_of_ble_eq_true rfl) (by decide) (by omega) (by omega) (cm_Z hY2 q (fun v F3 A3 q => ?_))
  obtain ⟨r2, rfl, er, hI3⟩ := q
  refine lz_icmp_eq (x := r) (y := r2) (st := []) (tgt := 825) dL_law_276 (by decide) (fun _ => ?_) (fun h => absurd er h)
  exact lz_room (by omega) (by omega) (kk w nb2 T2 F3 G2 A3 B2 hY2 hw hI3)
theorem law_measure {i : Nat} (hi : i + 6 ≤ NN) (hNN : NN ≤ 3072) (hY : LY w nb T G B) (hw : TW w) (hI : Inv w nb F A) (kk : NXT l p e s m below meth c z b NN xs D cy nm rc rs i) : ZL l p e s m below meth c z b NN xs D cy (mL nm) (rc + 2) (rs + 8) 281 (LVi i) [] T F G A B := by
  refine lz_aload_n (x := 1) (i := 1) dL_law_281 1 rfl rfl ?_
  refine lz_arg (j := 1) dL_law_282 dL_law_283 dL_law_284 dL_law_285 dL_law_286 rfl (by omega) hNN ?_
  refine lz_arg (j := 2) dL_law_287 dL_law_288 dL_law_289 dL_law_290 dL_law_291 rfl (by omega) hNN ?_
  refine lz_arg (j := 3) dL_law_292 dL_law_293 dL_law_294 dL_law_295 dL_law_296 rfl (by omega) hNN ?_
  refine lz_callV (ac' := 0) (az' := 0) (rc' := rc + 2) (rs' := rs + 8) (L' := 3) (ci := 7) (As := [.int (xs (i + 1)), .int (xs (i + 2)), .int (xs (i + 3))]) (rest := []) dL_law_297 okX7_measure ioX7_measure mk_L_28 rfl (by decide) (lat hY rfl) rfl rfl (by decide) (by decide) (by omega) (by omega) (cm_Z hY (op_measure hw hI) (fun v F2 A2 q => ?_))
  obtain ⟨r, rfl, q⟩ := q
  refine lz_aload_n (st := [.int r]) (x := 122) (i := 2) dL_law_300 2 rfl rfl ?_
  refine lz_arg (j := 1) dL_law_301 dL_law_302 dL_law_303 dL_law_304 dL_law_305 rfl (by omega) hNN ?_
  refine lz_arg (j := 2) dL_law_306 dL_law_307 dL_law_308 dL_law_309 dL_law_310 rfl (by omega) hNN ?_
  refine lz_arg (j := 3) dL_law_311 dL_law_312 dL_law_313 dL_law_314 dL_law_315 rfl (by omega) hNN ?_
  refine lz_callV (ac' := 0) (az' := 0) (rc' := rc + 2) (rs' := rs + 8) (L' := 3) (ci := 8) (As := [.int (xs (i + 1)), .int (xs (i + 2)), .int (xs (i + 3))]) (rest := [.int r]) dL_law_316 okX8_measure ioX8_measure mk_L_32 rfl (by decide) (lat hY rfl) rfl rfl (Nat.le_of_ble_eq_true rfl) (by decide) (by omega) (by omega) (cm_Z hY q (fun v F3 A3 q => ?_))
  obtain ⟨r2, rfl, er, hI3⟩ := q
  refine lz_icmp_eq (x := r) (y := r2) (st := []) (tgt := 825) dL_law_319 (by decide) (fun _ => ?_) (fun h => absurd er h)
  exact lz_room (by omega) (by omega) (kk w nb T F3 G A3 B hY hw hI3)
theorem law_lets {i : Nat} (hi : i + 6 ≤ NN) (hNN : NN ≤ 3072) (hY : LY w nb T G B) (hw : TW w) (hI : Inv w nb F A) (kk : NXT l p e s m below meth c z b NN xs D cy nm rc rs i) : ZL l p e s m below meth c z b NN xs D cy (mL nm) (rc + 2) (rs + 8) 324 (LVi i) [] T F G A B := by
  refine lz_aload_n (x := 1) (i := 1) dL_law_324 1 rfl rfl ?_
  refine lz_arg (j := 1) dL_law_325 dL_law_326 dL_law_327 dL_law_328 dL_law_329 rfl (by omega) hNN ?_
  refine lz_arg (j := 2) dL_law_330 dL_law_331 dL_law_332 dL_law_333 dL_law_334 rfl (by omega) hNN ?_
  refine lz_callV (ac' := 0) (az' := 0) (rc' := rc + 2) (rs' := rs + 8) (L' := 4) (ci := 7) (As := [.int (xs (i + 1)), .int (xs (i + 2))]) (rest := []) dL_law_335 okX7_lets ioX7_lets mk_L_33 rfl (by decide) (lat hY rfl) rfl rfl (by decide) (by decide) (by omega) (by omega) (cm_Z hY (op_lets hw hI) (fun v F2 A2 q => ?_))
  obtain ⟨r, rfl, q⟩ := q
  refine lz_aload_n (st := [.int r]) (x := 122) (i := 2) dL_law_338 2 rfl rfl ?_
  refine lz_arg (j := 1) dL_law_339 dL_law_340 dL_law_341 dL_law_342 dL_law_343 rfl (by omega) hNN ?_
  refine lz_arg (j := 2) dL_law_344 dL_law_345 dL_law_346 dL_law_347 dL_law_348 rfl (by omega) hNN ?_
  refine lz_callV (ac' := 0) (az' := 0) (rc' := rc + 2) (rs' := rs + 8) (L' := 4) (ci := 8) (As := [.int (xs (i + 1)), .int (xs (i + 2))]) (rest := [.int r]) dL_law_349 okX8_lets ioX8_lets mk_L_36 rfl (by decide) (lat hY rfl) rfl rfl (Nat.le_of_ble_eq_true rfl) (by decide) (by omega) (by omega) (cm_Z hY q (fun v F3 A3 q => ?_))
  obtain ⟨r2, rfl, er, hI3⟩ := q
  refine lz_icmp_eq (x := r) (y := r2) (st := []) (tgt := 825) dL_law_352 (by decide) (fun _ => ?_) (fun h => absurd er h)
  exact lz_room (by omega) (by omega) (kk w nb T F3 G A3 B hY hw hI3)
theorem law_enter {i : Nat} (hi : i + 6 ≤ NN) (hNN : NN ≤ 3072) (hY : LY w nb T G B) (hw : TW w) (hI : Inv w nb F A) (kk : NXT l p e s m below meth c z b NN xs D cy nm rc rs i) : ZL l p e s m below meth c z b NN xs D cy (mL nm) (rc + 2) (rs + 8) 357 (LVi i) [] T F G A B := by
  refine lz_aload_n (x := 1) (i := 1) dL_law_357 1 rfl rfl ?_
  refine lz_arg (j := 1) dL_law_358 dL_law_359 dL_law_360 dL_law_361 dL_law_362 rfl (by omega) hNN ?_
  refine lz_arg (j := 2) dL_law_363 dL_law_364 dL_law_365 dL_law_366 dL_law_367 rfl (by omega) hNN ?_
  refine lz_callV (ac' := 0) (az' := 0) (rc' := rc + 2) (rs' := rs + 8) (L' := 5) (ci := 7) (As := [.int (xs (i + 1)), .int (xs (i + 2))]) (rest := []) dL_law_368 okX7_enter ioX7_enter mk_L_37 rfl (by decide) (lat hY rfl) rfl rfl (by decide) (by decide) (by omega) (by omega) (cm_Z hY (op_enter hw hI) (fun v F2 A2 q => ?_))
  obtain ⟨r, rfl, q⟩ := q
  refine lz_aload_n (st := [.int r]) (x := 122) (i := 2) dL_law_371 2 rfl rfl ?_
  refine lz_arg (j := 1) dL_law_372 dL_law_373 dL_law_374 dL_law_375 dL_law_376 rfl (by omega) hNN ?_
  refine lz_arg (j := 2) dL_law_377 dL_law_378 dL_law_379 dL_law_380 dL_law_381 rfl (by omega) hNN ?_
  refine lz_callV (ac' := 0) (az' := 0) (rc' := rc + 2) (rs' := rs + 8) (L' := 4) (ci := 8) (As := [.int (xs (i + 1)), .int (xs (i + 2))]) (rest := [.int r]) dL_law_382 okX8_enter ioX8_enter mk_L_41 rfl (by decide) (lat hY rfl) rfl rfl (Nat.le_of_ble_eq_true rfl) (by decide) (by omega) (by omega) (cm_Z hY q (fun v F3 A3 q => ?_))
  obtain ⟨r2, rfl, er, hI3⟩ := q
  refine lz_icmp_eq (x := r) (y := r2) (st := []) (tgt := 825) dL_law_385 (by decide) (fun _ => ?_) (fun h => absurd er h)
  exact lz_room (by omega) (by omega) (kk w nb T F3 G A3 B hY hw hI3)
theorem law_protest {i : Nat} (hi : i + 6 ≤ NN) (hNN : NN ≤ 3072) (hY : LY w nb T G B) (hw : TW w) (hI : Inv w nb F A) (kk : NXT l p e s m below meth c z b NN xs D cy nm rc rs i) : ZL l p e s m below meth c z b NN xs D cy (mL nm) (rc + 2) (rs + 8) 390 (LVi i) [] T F G A B := by
  refine lz_aload_n (x := 1) (i := 1) dL_law_390 1 rfl rfl ?_
  refine lz_arg (j := 1) dL_law_391 dL_law_392 dL_law_393 dL_law_394 dL_law_395 rfl (by omega) hNN ?_
  refine lz_arg (j := 2) dL_law_396 dL_law_397 dL_law_398 dL_law_399 dL_law_400 rfl (by omega) hNN ?_
  refine lz_callV (ac' := 0) (az' := 0) (rc' := rc + 2) (rs' := rs + 8) (L' := 4) (ci := 7) (As := [.int (xs (i + 1)), .int (xs (i + 2))]) (rest := []) dL_law_401 okX7_protest ioX7_protest mk_L_42 rfl (by decide) (lat hY rfl) rfl rfl (by decide) (by decide) (by omega) (by omega) (cm_Z hY (op_protest hw hI) (fun v F2 A2 q => ?_))
  obtain ⟨r, rfl, q⟩ := q
  refine lz_aload_n (st := [.int r]) (x := 122) (i := 2) dL_law_404 2 rfl rfl ?_
  refine lz_arg (j := 1) dL_law_405 dL_law_406 dL_law_407 dL_law_408 dL_law_409 rfl (by omega) hNN ?_
  refine lz_arg (j := 2) dL_law_410 dL_law_411 dL_law_412 dL_law_413 dL_law_414 rfl (by omega) hNN ?_
  refine lz_callV (ac' := 0) (az' := 0) (rc' := rc + 2) (rs' := rs + 8) (L' := 3) (ci := 8) (As := [.int (xs (i + 1)), .int (xs (i + 2))]) (rest := [.int r]) dL_law_415 okX8_protest ioX8_protest mk_L_45 rfl (by decide) (lat hY rfl) rfl rfl (Nat.le_of_ble_eq_true rfl) (by decide) (by omega) (by omega) (cm_Z hY q (fun v F3 A3 q => ?_))
  obtain ⟨r2, rfl, er, hI3⟩ := q
  refine lz_icmp_eq (x := r) (y := r2) (st := []) (tgt := 825) dL_law_418 (by decide) (fun _ => ?_) (fun h => absurd er h)
  exact lz_room (by omega) (by omega) (kk w nb T F3 G A3 B hY hw hI3)
theorem law_bar {i : Nat} (hi : i + 6 ≤ NN) (hNN : NN ≤ 3072) (hY : LY w nb T G B) (hw : TW w) (hI : Inv w nb F A) (kk : NXT l p e s m below meth c z b NN xs D cy nm rc rs i) : ZL l p e s m below meth c z b NN xs D cy (mL nm) (rc + 2) (rs + 8) 423 (LVi i) [] T F G A B := by
  refine lz_aload_n (x := 1) (i := 1) dL_law_423 1 rfl rfl ?_
  refine lz_arg (j := 1) dL_law_424 dL_law_425 dL_law_426 dL_law_427 dL_law_428 rfl (by omega) hNN ?_
  refine lz_arg (j := 2) dL_law_429 dL_law_430 dL_law_431 dL_law_432 dL_law_433 rfl (by omega) hNN ?_
  refine lz_callV (ac' := 0) (az' := 0) (rc' := rc + 2) (rs' := rs + 8) (L' := 3) (ci := 7) (As := [.int (xs (i + 1)), .int (xs (i + 2))]) (rest := []) dL_law_434 okX7_bar ioX7_bar mk_L_46 rfl (by decide) (lat hY rfl) rfl rfl (by decide) (by decide) (by omega) (by omega) (cm_Z hY (op_bar hw hI) (fun v F2 A2 q => ?_))
  obtain ⟨r, rfl, q⟩ := q
  refine lz_aload_n (st := [.int r]) (x := 122) (i := 2) dL_law_437 2 rfl rfl ?_
  refine lz_arg (j := 1) dL_law_438 dL_law_439 dL_law_440 dL_law_441 dL_law_442 rfl (by omega) hNN ?_
  refine lz_arg (j := 2) dL_law_443 dL_law_444 dL_law_445 dL_law_446 dL_law_447 rfl (by omega) hNN ?_
  refine lz_callV (ac' := 0) (az' := 0) (rc' := rc + 2) (rs' := rs + 8) (L' := 3) (ci := 8) (As := [.int (xs (i + 1)), .int (xs (i + 2))]) (rest := [.int r]) dL_law_448 okX8_bar ioX8_bar mk_L_49 rfl (by decide) (lat hY rfl) rfl rfl (Nat.le_of_ble_eq_true rfl) (by decide) (by omega) (by omega) (cm_Z hY q (fun v F3 A3 q => ?_))
  obtain ⟨r2, rfl, er, hI3⟩ := q
  refine lz_icmp_eq (x := r) (y := r2) (st := []) (tgt := 825) dL_law_451 (by decide) (fun _ => ?_) (fun h => absurd er h)
  exact lz_room (by omega) (by omega) (kk w nb T F3 G A3 B hY hw hI3)
theorem law_order {i : Nat} (hi : i + 6 ≤ NN) (hNN : NN ≤ 3072) (hY : LY w nb T G B) (hw : TW w) (hI : Inv w nb F A) (kk : NXT l p e s m below meth c z b NN xs D cy nm rc rs i) : ZL l p e s m below meth c z b NN xs D cy (mL nm) (rc + 2) (rs + 8) 456 (LVi i) [] T F G A B := by
  refine lz_aload_n (x := 1) (i := 1) dL_law_456 1 rfl rfl ?_
  refine lz_arg (j := 1) dL_law_457 dL_law_458 dL_law_459 dL_law_460 dL_law_461 rfl (by omega) hNN ?_
  refine lz_arg (j := 2) dL_law_462 dL_law_463 dL_law_464 dL_law_465 dL_law_466 rfl (by omega) hNN ?_
  refine lz_callV (ac' := 0) (az' := 0) (rc' := rc + 2) (rs' := rs + 8) (L' := 4) (ci := 7) (As := [.int (xs (i + 1)), .int (xs (i + 2))]) (rest := []) dL_law_467 okX7_order ioX7_order mk_L_50 rfl (by decide) (lat hY rfl) rfl rfl (by decide) (by decide) (by omega) (by omega) (cm_Z hY (op_order hw hI) (fun v F2 A2 q => ?_))
  obtain ⟨r, rfl, q⟩ := q
  refine lz_aload_n (st := [.int r]) (x := 122) (i := 2) dL_law_470 2 rfl rfl ?_
  refine lz_arg (j := 1) dL_law_471 dL_law_472 dL_law_473 dL_law_474 dL_law_475 rfl (by omega) hNN ?_
  refine lz_arg (j := 2) dL_law_476 dL_law_477 dL_law_478 dL_law_479 dL_law_480 rfl (by omega) hNN ?_
  refine lz_callV (ac' := 0) (az' := 0) (rc' := rc + 2) (rs' := rs + 8) (L' := 3) (ci := 8) (As := [.int (xs (i + 1)), .int (xs (i + 2))]) (rest := [.int r]) dL_law_481 okX8_order ioX8_order mk_L_53 rfl (by decide) (lat hY rfl) rfl rfl (Nat.le_of_ble_eq_true rfl) (by decide) (by omega) (by omega) (cm_Z hY q (fun v F3 A3 q => ?_))
  obtain ⟨r2, rfl, er, hI3⟩ := q
  refine lz_icmp_eq (x := r) (y := r2) (st := []) (tgt := 825) dL_law_484 (by decide) (fun _ => ?_) (fun h => absurd er h)
  exact lz_room (by omega) (by omega) (kk w nb T F3 G A3 B hY hw hI3)
theorem law_placed {i : Nat} (hi : i + 6 ≤ NN) (hNN : NN ≤ 3072) (hY : LY w nb T G B) (hw : TW w) (hI : Inv w nb F A) (kk : NXT l p e s m below meth c z b NN xs D cy nm rc rs i) : ZL l p e s m below meth c z b NN xs D cy (mL nm) (rc + 2) (rs + 8) 489 (LVi i) [] T F G A B := by
  refine lz_aload_n (x := 1) (i := 1) dL_law_489 1 rfl rfl ?_
  refine lz_arg (j := 1) dL_law_490 dL_law_491 dL_law_492 dL_law_493 dL_law_494 rfl (by omega) hNN ?_
  refine lz_arg (j := 2) dL_law_495 dL_law_496 dL_law_497 dL_law_498 dL_law_499 rfl (by omega) hNN ?_
  refine lz_callV (ac' := 0) (az' := 0) (rc' := rc + 2) (rs' := rs + 8) (L' := 3) (ci := 7) (As := [.int (xs (i + 1)), .int (xs (i + 2))]) (rest := []) dL_law_500 okX7_placed ioX7_placed mk_L_54 rfl (by decide) (lat hY rfl) rfl rfl (by decide) (by decide) (by omega) (by omega) (cm_Z hY (op_placed hw hI) (fun v F2 A2 q => ?_))
  obtain ⟨r, rfl, q⟩ := q
  refine lz_aload_n (st := [.int r]) (x := 122) (i := 2) dL_law_503 2 rfl rfl ?_
  refine lz_arg (j := 1) dL_law_504 dL_law_505 dL_law_506 dL_law_507 dL_law_508 rfl (by omega) hNN ?_
  refine lz_arg (j := 2) dL_law_509 dL_law_510 dL_law_511 dL_law_512 dL_law_513 rfl (by omega) hNN ?_
  refine lz_callV (ac' := 0) (az' := 0) (rc' := rc + 2) (rs' := rs + 8) (L' := 4) (ci := 8) (As := [.int (xs (i + 1)), .int (xs (i + 2))]) (rest := [.int r]) dL_law_514 okX8_placed ioX8_placed mk_L_57 rfl (by decide) (lat hY rfl) rfl rfl (Nat.le_of_ble_eq_true rfl) (by decide) (by omega) (by omega) (cm_Z hY q (fun v F3 A3 q => ?_))
  obtain ⟨r2, rfl, er, hI3⟩ := q
  refine lz_icmp_eq (x := r) (y := r2) (st := []) (tgt := 825) dL_law_517 (by decide) (fun _ => ?_) (fun h => absurd er h)
  exact lz_room (by omega) (by omega) (kk w nb T F3 G A3 B hY hw hI3)
theorem law_swaps {i : Nat} (hi : i + 6 ≤ NN) (hNN : NN ≤ 3072) (hY : LY w nb T G B) (hw : TW w) (hI : Inv w nb F A) (kk : NXT l p e s m below meth c z b NN xs D cy nm rc rs i) : ZL l p e s m below meth c z b NN xs D cy (mL nm) (rc + 2) (rs + 8) 522 (LVi i) [] T F G A B := by
  refine lz_aload_n (x := 1) (i := 1) dL_law_522 1 rfl rfl ?_
  refine lz_arg (j := 1) dL_law_523 dL_law_524 dL_law_525 dL_law_526 dL_law_527 rfl (by omega) hNN ?_
  refine lz_callV (ac' := 0) (az' := 0) (rc' := rc + 2) (rs' := rs + 8) (L' := 3) (ci := 7) (As := [.int (xs (i + 1))]) (rest := []) dL_law_528 okX7_swaps ioX7_swaps mk_L_58 rfl (by decide) (lat hY rfl) rfl rfl (by decide) (by decide) (by omega) (by omega) (cm_Z hY (op_swaps hw hI) (fun v F2 A2 q => ?_))
  obtain ⟨r, rfl, q⟩ := q
  refine lz_aload_n (st := [.int r]) (x := 122) (i := 2) dL_law_531 2 rfl rfl ?_
  refine lz_arg (j := 1) dL_law_532 dL_law_533 dL_law_534 dL_law_535 dL_law_536 rfl (by omega) hNN ?_
  refine lz_callV (ac' := 0) (az' := 0) (rc' := rc + 2) (rs' := rs + 8) (L' := 4) (ci := 8) (As := [.int (xs (i + 1))]) (rest := [.int r]) dL_law_537 okX8_swaps ioX8_swaps mk_L_62 rfl (by decide) (lat hY rfl) rfl rfl (Nat.le_of_ble_eq_true rfl) (by decide) (by omega) (by omega) (cm_Z hY q (fun v F3 A3 q => ?_))
  obtain ⟨r2, rfl, er, hI3⟩ := q
  refine lz_icmp_eq (x := r) (y := r2) (st := []) (tgt := 825) dL_law_540 (by decide) (fun _ => ?_) (fun h => absurd er h)
  exact lz_room (by omega) (by omega) (kk w nb T F3 G A3 B hY hw hI3)
theorem law_ring {i : Nat} (hi : i + 6 ≤ NN) (hNN : NN ≤ 3072) (hY : LY w nb T G B) (hw : TW w) (hI : Inv w nb F A) (kk : NXT l p e s m below meth c z b NN xs D cy nm rc rs i) : ZL l p e s m below meth c z b NN xs D cy (mL nm) (rc + 2) (rs + 8) 545 (LVi i) [] T F G A B := by
  refine lz_aload_n (x := 1) (i := 1) dL_law_545 1 rfl rfl ?_
  refine lz_arg (j := 1) dL_law_546 dL_law_547 dL_law_548 dL_law_549 dL_law_550 rfl (by omega) hNN ?_
  refine lz_arg (j := 2) dL_law_551 dL_law_552 dL_law_553 dL_law_554 dL_law_555 rfl (by omega) hNN ?_
  refine lz_callV (ac' := 0) (az' := 0) (rc' := rc + 2) (rs' := rs + 8) (L' := 4) (ci := 7) (As := [.int (xs (i + 1)), .int (xs (i + 2))]) (rest := []) dL_law_556 okX7_ring ioX7_ring mk_L_63 rfl (by decide) (lat hY rfl) rfl rfl (by decide) (by decide) (by omega) (by omega) (cm_Z hY (op_ring hw hI) (fun v F2 A2 q => ?_))
  obtain ⟨r, rfl, q⟩ := q
  refine lz_aload_n (st := [.int r]) (x := 122) (i := 2) dL_law_559 2 rfl rfl ?_
  refine lz_arg (j := 1) dL_law_560 dL_law_561 dL_law_562 dL_law_563 dL_law_564 rfl (by omega) hNN ?_
  refine lz_arg (j := 2) dL_law_565 dL_law_566 dL_law_567 dL_law_568 dL_law_569 rfl (by omega) hNN ?_
  refine lz_callV (ac' := 0) (az' := 0) (rc' := rc + 2) (rs' := rs + 8) (L' := 4) (ci := 8) (As := [.int (xs (i + 1)), .int (xs (i + 2))]) (rest := [.int r]) dL_law_570 okX8_ring ioX8_ring mk_L_66 rfl (by decide) (lat hY rfl) rfl rfl (Nat.le_of_ble_eq_true rfl) (by decide) (by omega) (by omega) (cm_Z hY q (fun v F3 A3 q => ?_))
  obtain ⟨r2, rfl, er, hI3⟩ := q
  refine lz_icmp_eq (x := r) (y := r2) (st := []) (tgt := 825) dL_law_573 (by decide) (fun _ => ?_) (fun h => absurd er h)
  exact lz_room (by omega) (by omega) (kk w nb T F3 G A3 B hY hw hI3)
theorem law_cut {i : Nat} (hi : i + 6 ≤ NN) (hNN : NN ≤ 3072) (hY : LY w nb T G B) (hw : TW w) (hI : Inv w nb F A) (kk : NXT l p e s m below meth c z b NN xs D cy nm rc rs i) : ZL l p e s m below meth c z b NN xs D cy (mL nm) (rc + 2) (rs + 8) 578 (LVi i) [] T F G A B := by
  refine lz_aload_n (x := 1) (i := 1) dL_law_578 1 rfl rfl ?_
  refine lz_arg (j := 1) dL_law_579 dL_law_580 dL_law_581 dL_law_582 dL_law_583 rfl (by omega) hNN ?_
  refine lz_arg (j := 2) dL_law_584 dL_law_585 dL_law_586 dL_law_587 dL_law_588 rfl (by omega) hNN ?_
  refine lz_arg (j := 3) dL_law_589 dL_law_590 dL_law_591 dL_law_592 dL_law_593 rfl (by omega) hNN ?_
  refine lz_callV (ac' := 0) (az' := 0) (rc' := rc + 2) (rs' := rs + 8) (L' := 3) (ci := 7) (As := [.int (xs (i + 1)), .int (xs (i + 2)), .int (xs (i + 3))]) (rest := []) dL_law_594 okX7_cut ioX7_cut mk_L_67 rfl (by decide) (lat hY rfl) rfl rfl (by decide) (by decide) (by omega) (by omega) (cm_Z hY (op_cut hw hI) (fun v F2 A2 q => ?_))
  obtain ⟨r, rfl, q⟩ := q
  refine lz_aload_n (st := [.int r]) (x := 122) (i := 2) dL_law_597 2 rfl rfl ?_
  refine lz_arg (j := 1) dL_law_598 dL_law_599 dL_law_600 dL_law_601 dL_law_602 rfl (by omega) hNN ?_
  refine lz_arg (j := 2) dL_law_603 dL_law_604 dL_law_605 dL_law_606 dL_law_607 rfl (by omega) hNN ?_
  refine lz_arg (j := 3) dL_law_608 dL_law_609 dL_law_610 dL_law_611 dL_law_612 rfl (by omega) hNN ?_
  refine lz_callV (ac' := 0) (az' := 0) (rc' := rc + 2) (rs' := rs + 8) (L' := 3) (ci := 8) (As := [.int (xs (i + 1)), .int (xs (i + 2)), .int (xs (i + 3))]) (rest := [.int r]) dL_law_613 okX8_cut ioX8_cut mk_L_70 rfl (by decide) (lat hY rfl) rfl rfl (Nat.le_of_ble_eq_true rfl) (by decide) (by omega) (by omega) (cm_Z hY q (fun v F3 A3 q => ?_))
  obtain ⟨r2, rfl, er, hI3⟩ := q
  refine lz_icmp_eq (x := r) (y := r2) (st := []) (tgt := 825) dL_law_616 (by decide) (fun _ => ?_) (fun h => absurd er h)
  exact lz_room (by omega) (by omega) (kk w nb T F3 G A3 B hY hw hI3)
theorem law_card {i : Nat} (hi : i + 6 ≤ NN) (hNN : NN ≤ 3072) (hY : LY w nb T G B) (hw : TW w) (hI : Inv w nb F A) (kk : NXT l p e s m below meth c z b NN xs D cy nm rc rs i) : ZL l p e s m below meth c z b NN xs D cy (mL nm) (rc + 2) (rs + 8) 621 (LVi i) [] T F G A B := by
  refine lz_aload_n (x := 1) (i := 1) dL_law_621 1 rfl rfl ?_
  refine lz_arg (j := 1) dL_law_622 dL_law_623 dL_law_624 dL_law_625 dL_law_626 rfl (by omega) hNN ?_
  refine lz_callV (ac' := 0) (az' := 0) (rc' := rc + 2) (rs' := rs + 8) (L' := 4) (ci := 7) (As := [.int (xs (i + 1))]) (rest := []) dL_law_627 okX7_card ioX7_card mk_L_71 rfl (by decide) (lat hY rfl) rfl rfl (by decide) (by decide) (by omega) (by omega) (cm_Z hY (op_card hw hI) (fun v F2 A2 q => ?_))
  obtain ⟨r, rfl, q⟩ := q
  refine lz_aload_n (st := [.int r]) (x := 122) (i := 2) dL_law_630 2 rfl rfl ?_
  refine lz_arg (j := 1) dL_law_631 dL_law_632 dL_law_633 dL_law_634 dL_law_635 rfl (by omega) hNN ?_
  refine lz_callV (ac' := 0) (az' := 0) (rc' := rc + 2) (rs' := rs + 8) (L' := 4) (ci := 8) (As := [.int (xs (i + 1))]) (rest := [.int r]) dL_law_636 okX8_card ioX8_card mk_L_74 rfl (by decide) (lat hY rfl) rfl rfl (Nat.le_of_ble_eq_true rfl) (by decide) (by omega) (by omega) (cm_Z hY q (fun v F3 A3 q => ?_))
  obtain ⟨r2, rfl, er, hI3⟩ := q
  refine lz_icmp_eq (x := r) (y := r2) (st := []) (tgt := 825) dL_law_639 (by decide) (fun _ => ?_) (fun h => absurd er h)
  exact lz_room (by omega) (by omega) (kk w nb T F3 G A3 B hY hw hI3)
theorem law_reasons {i : Nat} (hi : i + 6 ≤ NN) (hNN : NN ≤ 3072) (hY : LY w nb T G B) (hw : TW w) (hI : Inv w nb F A) (kk : NXT l p e s m below meth c z b NN xs D cy nm rc rs i) : ZL l p e s m below meth c z b NN xs D cy (mL nm) (rc + 2) (rs + 8) 644 (LVi i) [] T F G A B := by
  refine lz_aload_n (x := 1) (i := 1) dL_law_644 1 rfl rfl ?_
  refine lz_arg (j := 1) dL_law_645 dL_law_646 dL_law_647 dL_law_648 dL_law_649 rfl (by omega) hNN ?_
  refine lz_arg (j := 2) dL_law_650 dL_law_651 dL_law_652 dL_law_653 dL_law_654 rfl (by omega) hNN ?_
  refine lz_callV (ac' := 0) (az' := 0) (rc' := rc + 2) (rs' := rs + 8) (L' := 8) (ci := 7) (As := [.int (xs (i + 1)), .int (xs (i + 2))]) (rest := []) dL_law_655 okX7_reasons ioX7_reasons mk_L_75 rfl (by decide) (lat hY rfl) rfl rfl (by decide) (by decide) (by omega) (by omega) (cm_Z hY (op_reasons hw hI) (fun v F2 A2 q => ?_))
  obtain ⟨r, rfl, q⟩ := q
  refine lz_aload_n (st := [.int r]) (x := 122) (i := 2) dL_law_658 2 rfl rfl ?_
  refine lz_arg (j := 1) dL_law_659 dL_law_660 dL_law_661 dL_law_662 dL_law_663 rfl (by omega) hNN ?_
  refine lz_arg (j := 2) dL_law_664 dL_law_665 dL_law_666 dL_law_667 dL_law_668 rfl (by omega) hNN ?_
  refine lz_callV (ac' := 0) (az' := 0) (rc' := rc + 2) (rs' := rs + 8) (L' := 4) (ci := 8) (As := [.int (xs (i + 1)), .int (xs (i + 2))]) (rest := [.int r]) dL_law_669 okX8_reasons ioX8_reasons mk_L_78 rfl (by decide) (lat hY rfl) rfl rfl (Nat.le_of_ble_eq_true rfl) (by decide) (by omega) (by omega) (cm_Z hY q (fun v F3 A3 q => ?_))
  obtain ⟨r2, rfl, er, hI3⟩ := q
  refine lz_icmp_eq (x := r) (y := r2) (st := []) (tgt := 825) dL_law_672 (by decide) (fun _ => ?_) (fun h => absurd er h)
  exact lz_room (by omega) (by omega) (kk w nb T F3 G A3 B hY hw hI3)
theorem law_sand {i : Nat} (hi : i + 6 ≤ NN) (hNN : NN ≤ 3072) (hY : LY w nb T G B) (hw : TW w) (hI : Inv w nb F A) (kk : NXT l p e s m below meth c z b NN xs D cy nm rc rs i) : ZL l p e s m below meth c z b NN xs D cy (mL nm) (rc + 2) (rs + 8) 677 (LVi i) [] T F G A B := by
  refine lz_aload_n (x := 1) (i := 1) dL_law_677 1 rfl rfl ?_
  refine lz_arg (j := 1) dL_law_678 dL_law_679 dL_law_680 dL_law_681 dL_law_682 rfl (by omega) hNN ?_
  refine lz_callV (ac' := 0) (az' := 0) (rc' := rc + 2) (rs' := rs + 8) (L' := 1) (ci := 7) (As := [.int (xs (i + 1))]) (rest := []) dL_law_683 okX7_sand ioX7_sand mk_L_79 rfl (by decide) (lat hY rfl) rfl rfl (by decide) (by decide) (by omega) (by omega) (cm_Z hY (op_sand hw hI) (fun v F2 A2 q => ?_))
  obtain ⟨r, rfl, q⟩ := q
  refine lz_aload_n (st := [.int r]) (x := 122) (i := 2) dL_law_686 2 rfl rfl ?_
  refine lz_arg (j := 1) dL_law_687 dL_law_688 dL_law_689 dL_law_690 dL_law_691 rfl (by omega) hNN ?_
  refine lz_callV (ac' := 0) (az' := 0) (rc' := rc + 2) (rs' := rs + 8) (L' := 2) (ci := 8) (As := [.int (xs (i + 1))]) (rest := [.int r]) dL_law_692 okX8_sand ioX8_sand mk_L_83 rfl (by decide) (lat hY rfl) rfl rfl (Nat.le_of_ble_eq_true rfl) (by decide) (by omega) (by omega) (cm_Z hY q (fun v F3 A3 q => ?_))
  obtain ⟨r2, rfl, er, hI3⟩ := q
  refine lz_icmp_eq (x := r) (y := r2) (st := []) (tgt := 825) dL_law_695 (by decide) (fun _ => ?_) (fun h => absurd er h)
  exact lz_room (by omega) (by omega) (kk w nb T F3 G A3 B hY hw hI3)
theorem law_hour {i : Nat} (hi : i + 6 ≤ NN) (hNN : NN ≤ 3072) (hY : LY w nb T G B) (hw : TW w) (hI : Inv w nb F A) (kk : NXT l p e s m below meth c z b NN xs D cy nm rc rs i) : ZL l p e s m below meth c z b NN xs D cy (mL nm) (rc + 2) (rs + 8) 700 (LVi i) [] T F G A B := by
  refine lz_aload_n (x := 1) (i := 1) dL_law_700 1 rfl rfl ?_
  refine lz_arg (j := 1) dL_law_701 dL_law_702 dL_law_703 dL_law_704 dL_law_705 rfl (by omega) hNN ?_
  refine lz_callV (ac' := 0) (az' := 0) (rc' := rc + 2) (rs' := rs + 8) (L' := 11) (ci := 7) (As := [.int (xs (i + 1))]) (rest := []) dL_law_706 okX7_hour ioX7_hour mk_L_84 rfl (by decide) (lat hY rfl) rfl rfl (by decide) (by decide) (by omega) (by omega) (cm_Z hY (op_hour hw hI) (fun v F2 A2 q => ?_))
  obtain ⟨r, rfl, q⟩ := q
  refine lz_aload_n (st := [.int r]) (x := 122) (i := 2) dL_law_709 2 rfl rfl ?_
  refine lz_arg (j := 1) dL_law_710 dL_law_711 dL_law_712 dL_law_713 dL_law_714 rfl (by omega) hNN ?_
  refine lz_callV (ac' := 0) (az' := 0) (rc' := rc + 2) (rs' := rs + 8) (L' := 3) (ci := 8) (As := [.int (xs (i + 1))]) (rest := [.int r]) dL_law_715 okX8_hour ioX8_hour mk_L_87 rfl (by decide) (lat hY rfl) rfl rfl (Nat.le_of_ble_eq_true rfl) (by decide) (by omega) (by omega) (cm_Z hY q (fun v F3 A3 q => ?_))
  obtain ⟨r2, rfl, er, hI3⟩ := q
  refine lz_icmp_eq (x := r) (y := r2) (st := []) (tgt := 825) dL_law_718 (by decide) (fun _ => ?_) (fun h => absurd er h)
  exact lz_room (by omega) (by omega) (kk w nb T F3 G A3 B hY hw hI3)
theorem law_team {i : Nat} (hi : i + 6 ≤ NN) (hNN : NN ≤ 3072) (hY : LY w nb T G B) (hw : TW w) (hI : Inv w nb F A) (kk : NXT l p e s m below meth c z b NN xs D cy nm rc rs i) : ZL l p e s m below meth c z b NN xs D cy (mL nm) (rc + 2) (rs + 8) 723 (LVi i) [] T F G A B := by
  refine lz_aload_n (x := 1) (i := 1) dL_law_723 1 rfl rfl ?_
  refine lz_arg (j := 1) dL_law_724 dL_law_725 dL_law_726 dL_law_727 dL_law_728 rfl (by omega) hNN ?_
  refine lz_callV (ac' := 0) (az' := 0) (rc' := rc + 2) (rs' := rs + 8) (L' := 3) (ci := 7) (As := [.int (xs (i + 1))]) (rest := []) dL_law_729 okX7_team ioX7_team mk_L_88 rfl (by decide) (lat hY rfl) rfl rfl (by decide) (by decide) (by omega) (by omega) (cm_Z hY (op_team hw hI) (fun v F2 A2 q => ?_))
  obtain ⟨r, rfl, q⟩ := q
  refine lz_aload_n (st := [.int r]) (x := 122) (i := 2) dL_law_732 2 rfl rfl ?_
  refine lz_arg (j := 1) dL_law_733 dL_law_734 dL_law_735 dL_law_736 dL_law_737 rfl (by omega) hNN ?_
  refine lz_callV (ac' := 0) (az' := 0) (rc' := rc + 2) (rs' := rs + 8) (L' := 5) (ci := 8) (As := [.int (xs (i + 1))]) (rest := [.int r]) dL_law_738 okX8_team ioX8_team mk_L_91 rfl (by decide) (lat hY rfl) rfl rfl (Nat.le_of_ble_eq_true rfl) (by decide) (by omega) (by omega) (cm_Z hY q (fun v F3 A3 q => ?_))
  obtain ⟨r2, rfl, er, hI3⟩ := q
  refine lz_icmp_eq (x := r) (y := r2) (st := []) (tgt := 825) dL_law_741 (by decide) (fun _ => ?_) (fun h => absurd er h)
  exact lz_room (by omega) (by omega) (kk w nb T F3 G A3 B hY hw hI3)
theorem law_price {i : Nat} (hi : i + 6 ≤ NN) (hNN : NN ≤ 3072) (hY : LY w nb T G B) (hw : TW w) (hI : Inv w nb F A) (kk : NXT l p e s m below meth c z b NN xs D cy nm rc rs i) : ZL l p e s m below meth c z b NN xs D cy (mL nm) (rc + 2) (rs + 8) 746 (LVi i) [] T F G A B := by
  refine lz_aload_n (x := 1) (i := 1) dL_law_746 1 rfl rfl ?_
  refine lz_arg (j := 1) dL_law_747 dL_law_748 dL_law_749 dL_law_750 dL_law_751 rfl (by omega) hNN ?_
  refine lz_callV (ac' := 0) (az' := 0) (rc' := rc + 2) (rs' := rs + 8) (L' := 3) (ci := 7) (As := [.int (xs (i + 1))]) (rest := []) dL_law_752 okX7_price ioX7_price mk_L_92 rfl (by decide) (lat hY rfl) rfl rfl (by decide) (by decide) (by omega) (by omega) (cm_Z hY (op_price hw hI) (fun v F2 A2 q => ?_))
  obtain ⟨r, rfl, q⟩ := q
  refine lz_aload_n (st := [.int r]) (x := 122) (i := 2) dL_law_755 2 rfl rfl ?_
  refine lz_arg (j := 1) dL_law_756 dL_law_757 dL_law_758 dL_law_759 dL_law_760 rfl (by omega) hNN ?_
  refine lz_callV (ac' := 0) (az' := 0) (rc' := rc + 2) (rs' := rs + 8) (L' := 4) (ci := 8) (As := [.int (xs (i + 1))]) (rest := [.int r]) dL_law_761 okX8_price ioX8_price mk_L_95 rfl (by decide) (lat hY rfl) rfl rfl (Nat.le_of_ble_eq_true rfl) (by decide) (by omega) (by omega) (cm_Z hY q (fun v F3 A3 q => ?_))
  obtain ⟨r2, rfl, er, hI3⟩ := q
  refine lz_icmp_eq (x := r) (y := r2) (st := []) (tgt := 825) dL_law_764 (by decide) (fun _ => ?_) (fun h => absurd er h)
  exact lz_room (by omega) (by omega) (kk w nb T F3 G A3 B hY hw hI3)
theorem law_look {i : Nat} (hi : i + 6 ≤ NN) (hNN : NN ≤ 3072) (hY : LY w nb T G B) (hw : TW w) (hI : Inv w nb F A) (kk : NXT l p e s m below meth c z b NN xs D cy nm rc rs i) : ZL l p e s m below meth c z b NN xs D cy (mL nm) (rc + 2) (rs + 8) 769 (LVi i) [] T F G A B := by
  refine lz_aload_n (x := 1) (i := 1) dL_law_769 1 rfl rfl ?_
  refine lz_arg (j := 1) dL_law_770 dL_law_771 dL_law_772 dL_law_773 dL_law_774 rfl (by omega) hNN ?_
  refine lz_arg (j := 2) dL_law_775 dL_law_776 dL_law_777 dL_law_778 dL_law_779 rfl (by omega) hNN ?_
  refine lz_callV (ac' := 0) (az' := 0) (rc' := rc + 2) (rs' := rs + 8) (L' := 3) (ci := 7) (As := [.int (xs (i + 1)), .int (xs (i + 2))]) (rest := []) dL_law_780 okX7_look ioX7_look mk_L_96 rfl (by decide) (lat hY rfl) rfl rfl (by decide) (by decide) (by omega) (by omega) (cm_Z hY (op_look hw hI) (fun v F2 A2 q => ?_))
  obtain ⟨r, rfl, q⟩ := q
  refine lz_aload_n (st := [.int r]) (x := 122) (i := 2) dL_law_783 2 rfl rfl ?_
  refine lz_arg (j := 1) dL_law_784 dL_law_785 dL_law_786 dL_law_787 dL_law_788 rfl (by omega) hNN ?_
  refine lz_arg (j := 2) dL_law_789 dL_law_790 dL_law_791 dL_law_792 dL_law_793 rfl (by omega) hNN ?_
  refine lz_callV (ac' := 0) (az' := 0) (rc' := rc + 2) (rs' := rs + 8) (L' := 4) (ci := 8) (As := [.int (xs (i + 1)), .int (xs (i + 2))]) (rest := [.int r]) dL_law_794 okX8_look ioX8_look mk_L_99 rfl (by decide) (lat hY rfl) rfl rfl (Nat.le_of_ble_eq_true rfl) (by decide) (by omega) (by omega) (cm_Z hY q (fun v F3 A3 q => ?_))
  obtain ⟨r2, rfl, er, hI3⟩ := q
  refine lz_icmp_eq (x := r) (y := r2) (st := []) (tgt := 825) dL_law_797 (by decide) (fun _ => ?_) (fun h => absurd er h)
  exact lz_room (by omega) (by omega) (kk w nb T F3 G A3 B hY hw hI3)
theorem law_count {i : Nat} (hi : i + 6 ≤ NN) (hNN : NN ≤ 3072) (hY : LY w nb T G B) (hw : TW w) (hI : Inv w nb F A) (kk : NXT l p e s m below meth c z b NN xs D cy nm rc rs i) : ZL l p e s m below meth c z b NN xs D cy (mL nm) (rc + 2) (rs + 8) 802 (LVi i) [] T F G A B := by
  refine lz_aload_n (x := 1) (i := 1) dL_law_802 1 rfl rfl ?_
  refine lz_arg (j := 1) dL_law_803 dL_law_804 dL_law_805 dL_law_806 dL_law_807 rfl (by omega) hNN ?_
  refine lz_callV (ac' := 0) (az' := 0) (rc' := rc + 2) (rs' := rs + 8) (L' := 11) (ci := 7) (As := [.int (xs (i + 1))]) (rest := []) dL_law_808 okX7_count ioX7_count mk_L_100 rfl (by decide) (lat hY rfl) rfl rfl (by decide) (by decide) (by omega) (by omega) (cm_Z hY (op_count hw hI) (fun v F2 A2 q => ?_))
  obtain ⟨r, rfl, q⟩ := q
  refine lz_aload_n (st := [.int r]) (x := 122) (i := 2) dL_law_811 2 rfl rfl ?_
  refine lz_arg (j := 1) dL_law_812 dL_law_813 dL_law_814 dL_law_815 dL_law_816 rfl (by omega) hNN ?_
  refine lz_callV (ac' := 0) (az' := 0) (rc' := rc + 2) (rs' := rs + 8) (L' := 3) (ci := 8) (As := [.int (xs (i + 1))]) (rest := [.int r]) dL_law_817 okX8_count ioX8_count mk_L_103 rfl (by decide) (lat hY rfl) rfl rfl (Nat.le_of_ble_eq_true rfl) (by decide) (by omega) (by omega) (cm_Z hY q (fun v F3 A3 q => ?_))
  obtain ⟨r2, rfl, er, hI3⟩ := q
  refine lz_icmp_eq (x := r) (y := r2) (st := []) (tgt := 825) dL_law_820 (by decide) (fun _ => ?_) (fun h => absurd er h)
  exact lz_room (by omega) (by omega) (kk w nb T F3 G A3 B hY hw hI3)
theorem law_more {i : Nat} (hNN : NN ≤ 3072) (hi : i ≤ NN) (hc : ¬ nI NN - 6 < nI i) : i + 6 ≤ NN := by
  have h1 : (nI NN).toInt = (NN : Int) := nI_toInt (by omega)
  have h2 : (nI i).toInt = (i : Int) := nI_toInt (by omega)
  have h3 : (nI NN - 6).toInt = (NN : Int) - 6 := by
    rw [Int32.toInt_sub, h1, show (6 : Int32).toInt = 6 from rfl]
    exact Int.bmod_eq_of_le (by omega) (by omega)
  rw [Int32.lt_iff_toInt_lt, h2, h3] at hc
  omega
theorem law_loop (hNN : NN ≤ 3072) : ∀ (n i : Nat), NN < i + 6 * (n + 1) → i ≤ NN → ∀ (w : Nat → Nat) (nb : Nat) (T : SH) (F : MI) (G : MN) (A : MI) (B : MN), LY w nb T G B → TW w → Inv w nb F A → ZL l p e s m below meth c z b NN xs D cy (mL nm) (2 * n) (8 * n) 18 (LVi i) [] T F G A B := by
  intro n
  induction n with
  | zero =>
    intro i hn hi w nb T F G A B hY hw hI
    refine lz_iload_n (x := nI i) (i := 3) dL_law_18 3 rfl rfl ?_
    refine lz_aload_nS (x := 0) (i := 0) dL_law_19 0 rfl rfl ?_
    refine lz_slen dL_law_20 ?_
    refine lz_bipush (v := 6) dL_law_21 rfl ?_
    refine lz_isub dL_law_23 ?_
    refine lz_icmp_gt (tgt := 831) dL_law_24 (by decide) (fun _ => ?_) (fun hc => ?_)
    · refine lz_iconst (v := 1) dL_law_831 rfl ?_
      exact lz_ret rfl rfl dL_law_832
    · exact absurd (law_more hNN hi hc) (by omega)
  | succ n ih =>
    intro i hn hi w nb T F G A B hY hw hI
    refine lz_iload_n (x := nI i) (i := 3) dL_law_18 3 rfl rfl ?_
    refine lz_aload_nS (x := 0) (i := 0) dL_law_19 0 rfl rfl ?_
    refine lz_slen dL_law_20 ?_
    refine lz_bipush (v := 6) dL_law_21 rfl ?_
    refine lz_isub dL_law_23 ?_
    refine lz_icmp_gt (tgt := 831) dL_law_24 (by decide) (fun _ => ?_) (fun hc => ?_)
    · refine lz_iconst (v := 1) dL_law_831 rfl ?_
      exact lz_ret rfl rfl dL_law_832
    · have h6 : i + 6 ≤ NN := law_more hNN hi hc
      have kk : NXT l p e s m below meth c z b NN xs D cy nm (2 * n) (8 * n) i := by
        intro w nb T F G A B hY hw hI
        refine lz_iinc (x := nI i) (v := nI (i + 6)) (lv' := LVi (i + 6)) dL_law_825 3 rfl (nI_add i 6) (show 3 < 4 by decide) rfl ?_
        refine lz_goto (tgt := 18) dL_law_828 (by decide) ?_
        exact ih (i + 6) (by omega) h6 w nb T F G A B hY hw hI
      refine lz_aload_nS (x := 0) (i := 0) dL_law_27 0 rfl rfl ?_
      refine lz_iload_n (x := nI i) (i := 3) dL_law_28 3 rfl rfl ?_
      refine lz_sld (vp_in_nI (show i < NN by omega) (by omega)) dL_law_29 ?_
      refine lz_bipush (v := 31) dL_law_30 rfl ?_
      refine lz_iand dL_law_32 ?_
      generalize xs (nI i).toNatClampNeg &&& 31 = x
      rcases (show x.toInt < 0 ∨ 20 < x.toInt ∨ x.toInt = 0 ∨ x.toInt = 1 ∨ x.toInt = 2 ∨ x.toInt = 3 ∨ x.toInt = 4 ∨ x.toInt = 5 ∨ x.toInt = 6 ∨ x.toInt = 7 ∨ x.toInt = 8 ∨ x.toInt = 9 ∨ x.toInt = 10 ∨ x.toInt = 11 ∨ x.toInt = 12 ∨ x.toInt = 13 ∨ x.toInt = 14 ∨ x.toInt = 15 ∨ x.toInt = 16 ∨ x.toInt = 17 ∨ x.toInt = 18 ∨ x.toInt = 19 ∨ x.toInt = 20 by omega) with h | h | h | h | h | h | h | h | h | h | h | h | h | h | h | h | h | h | h | h | h | h | h
      · refine lz_tableOut (tgt := 825) dL_law_33 (Or.inl h) (by decide) ?_
        exact lz_room (by omega) (by omega) (kk w nb T F G A B hY hw hI)
      · refine lz_tableOut (tgt := 825) dL_law_33 (Or.inr h) (by decide) ?_
        exact lz_room (by omega) (by omega) (kk w nb T F G A B hY hw hI)
      · refine lz_tableIn (off := 99) (tgt := 132) dL_law_33 (by rw [h]; decide) (by rw [h]; decide) (by rw [h]; rfl) (by decide) ?_
        exact law_feed (rc := 2 * n) (rs := 8 * n) h6 hNN hY hw hI kk
      · refine lz_tableIn (off := 162) (tgt := 195) dL_law_33 (by rw [h]; decide) (by rw [h]; decide) (by rw [h]; rfl) (by decide) ?_
        exact law_text (rc := 2 * n) (rs := 8 * n) h6 hNN hY hw hI kk
      · refine lz_tableIn (off := 195) (tgt := 228) dL_law_33 (by rw [h]; decide) (by rw [h]; decide) (by rw [h]; rfl) (by decide) ?_
        exact law_beast (rc := 2 * n) (rs := 8 * n) h6 hNN hY hw hI kk
      · refine lz_tableIn (off := 248) (tgt := 281) dL_law_33 (by rw [h]; decide) (by rw [h]; decide) (by rw [h]; rfl) (by decide) ?_
        exact law_measure (rc := 2 * n) (rs := 8 * n) h6 hNN hY hw hI kk
      · refine lz_tableIn (off := 291) (tgt := 324) dL_law_33 (by rw [h]; decide) (by rw [h]; decide) (by rw [h]; rfl) (by decide) ?_
        exact law_lets (rc := 2 * n) (rs := 8 * n) h6 hNN hY hw hI kk
      · refine lz_tableIn (off := 324) (tgt := 357) dL_law_33 (by rw [h]; decide) (by rw [h]; decide) (by rw [h]; rfl) (by decide) ?_
        exact law_enter (rc := 2 * n) (rs := 8 * n) h6 hNN hY hw hI kk
      · refine lz_tableIn (off := 357) (tgt := 390) dL_law_33 (by rw [h]; decide) (by rw [h]; decide) (by rw [h]; rfl) (by decide) ?_
        exact law_protest (rc := 2 * n) (rs := 8 * n) h6 hNN hY hw hI kk
      · refine lz_tableIn (off := 390) (tgt := 423) dL_law_33 (by rw [h]; decide) (by rw [h]; decide) (by rw [h]; rfl) (by decide) ?_
        exact law_bar (rc := 2 * n) (rs := 8 * n) h6 hNN hY hw hI kk
      · refine lz_tableIn (off := 423) (tgt := 456) dL_law_33 (by rw [h]; decide) (by rw [h]; decide) (by rw [h]; rfl) (by decide) ?_
        exact law_order (rc := 2 * n) (rs := 8 * n) h6 hNN hY hw hI kk
      · refine lz_tableIn (off := 456) (tgt := 489) dL_law_33 (by rw [h]; decide) (by rw [h]; decide) (by rw [h]; rfl) (by decide) ?_
        exact law_placed (rc := 2 * n) (rs := 8 * n) h6 hNN hY hw hI kk
      · refine lz_tableIn (off := 489) (tgt := 522) dL_law_33 (by rw [h]; decide) (by rw [h]; decide) (by rw [h]; rfl) (by decide) ?_
        exact law_swaps (rc := 2 * n) (rs := 8 * n) h6 hNN hY hw hI kk
      · refine lz_tableIn (off := 512) (tgt := 545) dL_law_33 (by rw [h]; decide) (by rw [h]; decide) (by rw [h]; rfl) (by decide) ?_
        exact law_ring (rc := 2 * n) (rs := 8 * n) h6 hNN hY hw hI kk
      · refine lz_tableIn (off := 545) (tgt := 578) dL_law_33 (by rw [h]; decide) (by rw [h]; decide) (by rw [h]; rfl) (by decide) ?_
        exact law_cut (rc := 2 * n) (rs := 8 * n) h6 hNN hY hw hI kk
      · refine lz_tableIn (off := 588) (tgt := 621) dL_law_33 (by rw [h]; decide) (by rw [h]; decide) (by rw [h]; rfl) (by decide) ?_
        exact law_card (rc := 2 * n) (rs := 8 * n) h6 hNN hY hw hI kk
      · refine lz_tableIn (off := 611) (tgt := 644) dL_law_33 (by rw [h]; decide) (by rw [h]; decide) (by rw [h]; rfl) (by decide) ?_
        exact law_reasons (rc := 2 * n) (rs := 8 * n) h6 hNN hY hw hI kk
      · refine lz_tableIn (off := 644) (tgt := 677) dL_law_33 (by rw [h]; decide) (by rw [h]; decide) (by rw [h]; rfl) (by decide) ?_
        exact law_sand (rc := 2 * n) (rs := 8 * n) h6 hNN hY hw hI kk
      · refine lz_tableIn (off := 667) (tgt := 700) dL_law_33 (by rw [h]; decide) (by rw [h]; decide) (by rw [h]; rfl) (by decide) ?_
        exact law_hour (rc := 2 * n) (rs := 8 * n) h6 hNN hY hw hI kk
      · refine lz_tableIn (off := 690) (tgt := 723) dL_law_33 (by rw [h]; decide) (by rw [h]; decide) (by rw [h]; rfl) (by decide) ?_
        exact law_team (rc := 2 * n) (rs := 8 * n) h6 hNN hY hw hI kk
      · refine lz_tableIn (off := 713) (tgt := 746) dL_law_33 (by rw [h]; decide) (by rw [h]; decide) (by rw [h]; rfl) (by decide) ?_
        exact law_price (rc := 2 * n) (rs := 8 * n) h6 hNN hY hw hI kk
      · refine lz_tableIn (off := 736) (tgt := 769) dL_law_33 (by rw [h]; decide) (by rw [h]; decide) (by rw [h]; rfl) (by decide) ?_
        exact law_look (rc := 2 * n) (rs := 8 * n) h6 hNN hY hw hI kk
      · refine lz_tableIn (off := 769) (tgt := 802) dL_law_33 (by rw [h]; decide) (by rw [h]; decide) (by rw [h]; rfl) (by decide) ?_
        exact law_count (rc := 2 * n) (rs := 8 * n) h6 hNN hY hw hI kk
theorem law_start (hNN : NN ≤ 3072) : ZL l p e s m below meth c z b NN xs D cy (mL nm) 1170 8326 0 [(0, .long 0)] [] T0 F0i G0i F0i G0i := by
  refine lz_new (rc := 1169) (rs := 8316) (N := 10) (n := 0) dL_law_0 ckX7 cl_L_7 nn_X7 in_X7 rfl ?_
  show ZL l p e s m below meth c z b NN xs D cy (mL nm) 1169 8316 3 [(0, .long 0)] [.ref 1] sT1 sF1 sG1 F0i G0i
  refine lz_dup dL_law_3 ?_
  refine lz_callI (ac' := 120) (az' := 3120) (rc' := 1049) (rs' := 5196) (L' := 5) (As := []) (a := 1) (rest := [.ref 1]) dL_law_4 okX7_init rfl rfl imX7_init mk_L_9 rfl rfl (by decide) (by decide) (by omega) (by omega) (cX7 (n := 1) (a := 1) rfl At.nw ?_)
  show ZL l p e s m below meth c z b NN xs D cy (mL nm) 1049 5196 7 [(0, .long 0)] [.ref 1] sT2 sF2 sG2 sA2 sB2
  refine lz_astore_n (x := 1) (i := 1) (lv' := [(0, .long 0), (1, .ref 1)]) dL_law_7 rfl (show 1 < 4 by decide) rfl ?_
  refine lz_new (rc := 1048) (rs := 5162) (N := 34) (n := 121) dL_law_8 ckX8 cl_L_10 nn_X8 in_X8 sT2_n ?_
  show ZL l p e s m below meth c z b NN xs D cy (mL nm) 1048 5162 11 [(0, .long 0), (1, .ref 1)] [.ref 122] sT3 sF3 sG3 sA2 sB2
  refine lz_dup dL_law_11 ?_
  refine lz_callI (ac' := 24) (az' := 1066) (rc' := 1024) (rs' := 4096) (L' := 1) (As := []) (a := 122) (rest := [.ref 122]) dL_law_12 okX8_init rfl rfl imX8_init mk_L_12 rfl rfl (by decide) (by decide) (by omega) (by omega) (cX8 (n := 122) (a := 122) rfl At.nw ?_)
  show ZL l p e s m below meth c z b NN xs D cy (mL nm) 1024 4096 15 [(0, .long 0), (1, .ref 1)] [.ref 122] sT4 sF4 sG4 sA4 sB4
  refine lz_astore_n (x := 122) (i := 2) (lv' := [(0, .long 0), (1, .ref 1), (2, .ref 122)]) dL_law_15 rfl (show 2 < 4 by decide) rfl ?_
  refine lz_iconst (v := nI 0) dL_law_16 rfl ?_
  refine lz_istore_n (x := nI 0) (i := 3) (lv' := LVi 0) dL_law_17 rfl (show 3 < 4 by decide) rfl ?_
  exact lz_room (by omega) (by omega) (law_loop hNN 512 0 (by omega) (by omega) w0 0 sT4 sF4 sG4 sA4 sB4 ly0 tw0 inv0)
end LAWLOOP
