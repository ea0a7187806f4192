/-! ===== the law's cases ===== -/
section LC
variable {p : Program} {l : Launch} {e : Env} {s : State} {m : MethodId} {below : List Frame} {meth : Method} {c : Code} {b L : Nat} {xs : Nat → Int32} {cells slots : Nat} {w1 w2 : nt_w} {g1 g2 : nt_T} {nr : Nat} {ln : Nat → Nat}
/-- behind a case: the states are alike again -/
def nt_LK (p : Program) (l : Launch) (e : Env) (s : State) (m : MethodId) (below : List Frame) (meth : Method) (c : Code) (b i : Nat) (a1 a2 : Nat) (cells slots : Nat) (w2 : nt_w) : Prop := ∀ (u1 : nt_w) (nr : Nat) (ln : Nat → Nat) (g1 g2 : nt_T), nt_isR u1 nr ln → nt_LW s u1 → nt_apW u1 w2 → nt_a u1 0 = a1 → nt_Rel nr ln g1 g2 → nt_LG p l e s m below meth c b (cells + 2) (slots + 163) 1194 [(0, .ref b), (1, .ref a1), (2, .ref a2), (3, .int (nI i))] [] u1 g1 w2 g2
set_option maxRecDepth 100000 in
set_option maxHeartbeats 4000000 in
theorem law_0 (X : nt_LX p s m meth c b L xs) (hL : L ≤ 384) (hR1 : nt_isR w1 nr ln) (hw2 : nt_isM w2) (hW1 : nt_LW s w1) (hW2 : nt_LW s w2) (hap : nt_apW w1 w2) (hcs2 : cells + 2 ≤ 600000 ∧ slots + 163 ≤ 7302250) {i : Nat} (hi : i + 5 < L) (h : nt_Rel nr ln g1 g2) (kk : nt_LK p l e s m below meth c b i (nt_a w1 0) (nt_a w2 0) cells slots w2) : nt_LG p l e s m below meth c b cells slots 176 [(0, .ref b), (1, .ref (nt_a w1 0)), (2, .ref (nt_a w2 0)), (3, .int (nI i))] [] w1 g1 w2 g2 := by
  have hw1 : nt_isX w1 := ⟨nr, ln, hR1⟩
  have hcs : cells ≤ room_1.cells ∧ slots ≤ room_1.slots := ⟨by show cells ≤ 600000; omega, by show slots ≤ 7302250; omega⟩
  obtain ⟨v, ga, gb, e1, e2, h9⟩ := st_story h (xs (i + 1)) (xs (i + 2)) (xs (i + 3))
  refine nt_Laload X dL_law_176 rfl 1 rfl ?_
  refine nt_Lget X hL i 1 dL_law_177 dL_law_178 dL_law_179 dL_law_180 dL_law_181 rfl rfl rfl 0 3 rfl rfl (by omega) ?_
  refine nt_Lget X hL i 2 dL_law_182 dL_law_183 dL_law_184 dL_law_185 dL_law_186 rfl rfl rfl 0 3 rfl rfl (by omega) ?_
  refine nt_Lget X hL i 3 dL_law_187 dL_law_188 dL_law_189 dL_law_190 dL_law_191 rfl rfl rfl 0 3 rfl rfl (by omega) ?_
  refine nt_Lci X hW1 hap (As := [.int (xs (i + 1)), .int (xs (i + 2)), .int (xs (i + 3))]) (rest := []) (nt_lX hw1 (Nat.le_of_ble_eq_true rfl)) (nt_e0 hw1) rfl (cNt_story hw1 e1) wd_333 wd_330 wd_331 wd_332 wd_1 rfl hd_X8_story ⟨Nat.le_of_ble_eq_true rfl, Nat.le_of_ble_eq_true rfl⟩ hcs (Nat.le_of_ble_eq_true rfl) rfl dL_law_192 ?_
  refine nt_Laload X dL_law_195 rfl 2 rfl ?_
  refine nt_Lget X hL i 1 dL_law_196 dL_law_197 dL_law_198 dL_law_199 dL_law_200 rfl rfl rfl 0 3 rfl rfl (by omega) ?_
  refine nt_Lget X hL i 2 dL_law_201 dL_law_202 dL_law_203 dL_law_204 dL_law_205 rfl rfl rfl 0 3 rfl rfl (by omega) ?_
  refine nt_Lget X hL i 3 dL_law_206 dL_law_207 dL_law_208 dL_law_209 dL_law_210 rfl rfl rfl 0 3 rfl rfl (by omega) ?_
  refine nt_Lswap ?_
  refine nt_Lci X hW2 (nt_apW_sym hap) (As := [.int (xs (i + 1)), .int (xs (i + 2)), .int (xs (i + 3))]) (rest := [.int v]) (nt_lM hw2 (Nat.le_of_ble_eq_true rfl)) (nt_m0 hw2) rfl (cMo_story hw2 e2) wd_728 wd_725 wd_726 wd_727 wd_16 rfl hd_X9_story ⟨Nat.le_of_ble_eq_true rfl, Nat.le_of_ble_eq_true rfl⟩ hcs (Nat.le_of_ble_eq_true rfl) rfl dL_law_211 ?_
  refine nt_Lswap ?_
  refine nt_Licmpeq X 1194 dL_law_214 (by decide) ?_
  refine nt_Lwiden (Nat.le_add_right _ 2) (Nat.le_add_right _ 163) ?_
  exact kk w1 nr ln _ _ hR1 hW1 hap rfl h9
set_option maxRecDepth 100000 in
set_option maxHeartbeats 4000000 in
theorem law_1 (X : nt_LX p s m meth c b L xs) (hL : L ≤ 384) (hR1 : nt_isR w1 nr ln) (hw2 : nt_isM w2) (hW1 : nt_LW s w1) (hW2 : nt_LW s w2) (hap : nt_apW w1 w2) (hcs2 : cells + 2 ≤ 600000 ∧ slots + 163 ≤ 7302250) {i : Nat} (hi : i + 5 < L) (h : nt_Rel nr ln g1 g2) (kk : nt_LK p l e s m below meth c b i (nt_a w1 0) (nt_a w2 0) cells slots w2) : nt_LG p l e s m below meth c b cells slots 219 [(0, .ref b), (1, .ref (nt_a w1 0)), (2, .ref (nt_a w2 0)), (3, .int (nI i))] [] w1 g1 w2 g2 := by
  have hw1 : nt_isX w1 := ⟨nr, ln, hR1⟩
  have hcs : cells ≤ room_1.cells ∧ slots ≤ room_1.slots := ⟨by show cells ≤ 600000; omega, by show slots ≤ 7302250; omega⟩
  obtain ⟨v, ga, gb, e1, e2, h9⟩ := st_twin h (xs (i + 1)) (xs (i + 2))
  refine nt_Laload X dL_law_219 rfl 1 rfl ?_
  refine nt_Lget X hL i 1 dL_law_220 dL_law_221 dL_law_222 dL_law_223 dL_law_224 rfl rfl rfl 0 3 rfl rfl (by omega) ?_
  refine nt_Lget X hL i 2 dL_law_225 dL_law_226 dL_law_227 dL_law_228 dL_law_229 rfl rfl rfl 0 3 rfl rfl (by omega) ?_
  refine nt_Lci X hW1 hap (As := [.int (xs (i + 1)), .int (xs (i + 2))]) (rest := []) (nt_lX hw1 (Nat.le_of_ble_eq_true rfl)) (nt_e0 hw1) rfl (cNt_twin hw1 e1) wd_342 wd_339 wd_340 wd_341 wd_1 rfl hd_X8_twin ⟨Nat.le_of_ble_eq_true rfl, Nat.le_of_ble_eq_true rfl⟩ hcs (Nat.le_of_ble_eq_true rfl) rfl dL_law_230 ?_
  refine nt_Laload X dL_law_233 rfl 2 rfl ?_
  refine nt_Lget X hL i 1 dL_law_234 dL_law_235 dL_law_236 dL_law_237 dL_law_238 rfl rfl rfl 0 3 rfl rfl (by omega) ?_
  refine nt_Lget X hL i 2 dL_law_239 dL_law_240 dL_law_241 dL_law_242 dL_law_243 rfl rfl rfl 0 3 rfl rfl (by omega) ?_
  refine nt_Lswap ?_
  refine nt_Lci X hW2 (nt_apW_sym hap) (As := [.int (xs (i + 1)), .int (xs (i + 2))]) (rest := [.int v]) (nt_lM hw2 (Nat.le_of_ble_eq_true rfl)) (nt_m0 hw2) rfl (cMo_twin hw2 e2) wd_737 wd_734 wd_735 wd_736 wd_16 rfl hd_X9_twin ⟨Nat.le_of_ble_eq_true rfl, Nat.le_of_ble_eq_true rfl⟩ hcs (Nat.le_of_ble_eq_true rfl) rfl dL_law_244 ?_
  refine nt_Lswap ?_
  refine nt_Licmpeq X 1194 dL_law_247 (by decide) ?_
  refine nt_Lwiden (Nat.le_add_right _ 2) (Nat.le_add_right _ 163) ?_
  exact kk w1 nr ln _ _ hR1 hW1 hap rfl h9
set_option maxRecDepth 100000 in
set_option maxHeartbeats 4000000 in
theorem law_2 (X : nt_LX p s m meth c b L xs) (hL : L ≤ 384) (hR1 : nt_isR w1 nr ln) (hw2 : nt_isM w2) (hW1 : nt_LW s w1) (hW2 : nt_LW s w2) (hap : nt_apW w1 w2) (hcs2 : cells + 2 ≤ 600000 ∧ slots + 163 ≤ 7302250) {i : Nat} (hi : i + 5 < L) (h : nt_Rel nr ln g1 g2) (kk : nt_LK p l e s m below meth c b i (nt_a w1 0) (nt_a w2 0) cells slots w2) : nt_LG p l e s m below meth c b cells slots 252 [(0, .ref b), (1, .ref (nt_a w1 0)), (2, .ref (nt_a w2 0)), (3, .int (nI i))] [] w1 g1 w2 g2 := by
  have hw1 : nt_isX w1 := ⟨nr, ln, hR1⟩
  have hcs : cells ≤ room_1.cells ∧ slots ≤ room_1.slots := ⟨by show cells ≤ 600000; omega, by show slots ≤ 7302250; omega⟩
  obtain ⟨v, ga, gb, e1, e2, h9⟩ := st_person h (xs (i + 1)) (xs (i + 2))
  refine nt_Laload X dL_law_252 rfl 1 rfl ?_
  refine nt_Lget X hL i 1 dL_law_253 dL_law_254 dL_law_255 dL_law_256 dL_law_257 rfl rfl rfl 0 3 rfl rfl (by omega) ?_
  refine nt_Lget X hL i 2 dL_law_258 dL_law_259 dL_law_260 dL_law_261 dL_law_262 rfl rfl rfl 0 3 rfl rfl (by omega) ?_
  refine nt_Lci X hW1 hap (As := [.int (xs (i + 1)), .int (xs (i + 2))]) (rest := []) (nt_lX hw1 (Nat.le_of_ble_eq_true rfl)) (nt_e0 hw1) rfl (cNt_person hw1 e1) wd_354 wd_351 wd_352 wd_353 wd_1 rfl hd_X8_person ⟨Nat.le_of_ble_eq_true rfl, Nat.le_of_ble_eq_true rfl⟩ hcs (Nat.le_of_ble_eq_true rfl) rfl dL_law_263 ?_
  refine nt_Laload X dL_law_266 rfl 2 rfl ?_
  refine nt_Lget X hL i 1 dL_law_267 dL_law_268 dL_law_269 dL_law_270 dL_law_271 rfl rfl rfl 0 3 rfl rfl (by omega) ?_
  refine nt_Lget X hL i 2 dL_law_272 dL_law_273 dL_law_274 dL_law_275 dL_law_276 rfl rfl rfl 0 3 rfl rfl (by omega) ?_
  refine nt_Lswap ?_
  refine nt_Lci X hW2 (nt_apW_sym hap) (As := [.int (xs (i + 1)), .int (xs (i + 2))]) (rest := [.int v]) (nt_lM hw2 (Nat.le_of_ble_eq_true rfl)) (nt_m0 hw2) rfl (cMo_person hw2 e2) wd_747 wd_744 wd_745 wd_746 wd_16 rfl hd_X9_person ⟨Nat.le_of_ble_eq_true rfl, Nat.le_of_ble_eq_true rfl⟩ hcs (Nat.le_of_ble_eq_true rfl) rfl dL_law_277 ?_
  refine nt_Lswap ?_
  refine nt_Licmpeq X 1194 dL_law_280 (by decide) ?_
  refine nt_Lwiden (Nat.le_add_right _ 2) (Nat.le_add_right _ 163) ?_
  exact kk w1 nr ln _ _ hR1 hW1 hap rfl h9
set_option maxRecDepth 100000 in
set_option maxHeartbeats 4000000 in
theorem law_3 (X : nt_LX p s m meth c b L xs) (hL : L ≤ 384) (hR1 : nt_isR w1 nr ln) (hw2 : nt_isM w2) (hW1 : nt_LW s w1) (hW2 : nt_LW s w2) (hap : nt_apW w1 w2) (hcs2 : cells + 2 ≤ 600000 ∧ slots + 163 ≤ 7302250) {i : Nat} (hi : i + 5 < L) (h : nt_Rel nr ln g1 g2) (kk : nt_LK p l e s m below meth c b i (nt_a w1 0) (nt_a w2 0) cells slots w2) : nt_LG p l e s m below meth c b cells slots 285 [(0, .ref b), (1, .ref (nt_a w1 0)), (2, .ref (nt_a w2 0)), (3, .int (nI i))] [] w1 g1 w2 g2 := by
  have hw1 : nt_isX w1 := ⟨nr, ln, hR1⟩
  have hcs : cells ≤ room_1.cells ∧ slots ≤ room_1.slots := ⟨by show cells ≤ 600000; omega, by show slots ≤ 7302250; omega⟩
  obtain ⟨v, ga, gb, e1, e2, h9⟩ := st_set h (xs (i + 1)) (xs (i + 2)) (xs (i + 3))
  refine nt_Laload X dL_law_285 rfl 1 rfl ?_
  refine nt_Lget X hL i 1 dL_law_286 dL_law_287 dL_law_288 dL_law_289 dL_law_290 rfl rfl rfl 0 3 rfl rfl (by omega) ?_
  refine nt_Lget X hL i 2 dL_law_291 dL_law_292 dL_law_293 dL_law_294 dL_law_295 rfl rfl rfl 0 3 rfl rfl (by omega) ?_
  refine nt_Lget X hL i 3 dL_law_296 dL_law_297 dL_law_298 dL_law_299 dL_law_300 rfl rfl rfl 0 3 rfl rfl (by omega) ?_
  refine nt_Lci X hW1 hap (As := [.int (xs (i + 1)), .int (xs (i + 2)), .int (xs (i + 3))]) (rest := []) (nt_lX hw1 (Nat.le_of_ble_eq_true rfl)) (nt_e0 hw1) rfl (cNt_set hw1 e1) wd_363 wd_360 wd_361 wd_362 wd_1 rfl hd_X8_set ⟨Nat.le_of_ble_eq_true rfl, Nat.le_of_ble_eq_true rfl⟩ hcs (Nat.le_of_ble_eq_true rfl) rfl dL_law_301 ?_
  refine nt_Laload X dL_law_304 rfl 2 rfl ?_
  refine nt_Lget X hL i 1 dL_law_305 dL_law_306 dL_law_307 dL_law_308 dL_law_309 rfl rfl rfl 0 3 rfl rfl (by omega) ?_
  refine nt_Lget X hL i 2 dL_law_310 dL_law_311 dL_law_312 dL_law_313 dL_law_314 rfl rfl rfl 0 3 rfl rfl (by omega) ?_
  refine nt_Lget X hL i 3 dL_law_315 dL_law_316 dL_law_317 dL_law_318 dL_law_319 rfl rfl rfl 0 3 rfl rfl (by omega) ?_
  refine nt_Lswap ?_
  refine nt_Lci X hW2 (nt_apW_sym hap) (As := [.int (xs (i + 1)), .int (xs (i + 2)), .int (xs (i + 3))]) (rest := [.int v]) (nt_lM hw2 (Nat.le_of_ble_eq_true rfl)) (nt_m0 hw2) rfl (cMo_set hw2 e2) wd_753 wd_750 wd_751 wd_752 wd_16 rfl hd_X9_set ⟨Nat.le_of_ble_eq_true rfl, Nat.le_of_ble_eq_true rfl⟩ hcs (Nat.le_of_ble_eq_true rfl) rfl dL_law_320 ?_
  refine nt_Lswap ?_
  refine nt_Licmpeq X 1194 dL_law_323 (by decide) ?_
  refine nt_Lwiden (Nat.le_add_right _ 2) (Nat.le_add_right _ 163) ?_
  exact kk w1 nr ln _ _ hR1 hW1 hap rfl h9
set_option maxRecDepth 100000 in
set_option maxHeartbeats 4000000 in
theorem law_4 (X : nt_LX p s m meth c b L xs) (hL : L ≤ 384) (hR1 : nt_isR w1 nr ln) (hw2 : nt_isM w2) (hW1 : nt_LW s w1) (hW2 : nt_LW s w2) (hap : nt_apW w1 w2) (hcs2 : cells + 2 ≤ 600000 ∧ slots + 163 ≤ 7302250) {i : Nat} (hi : i + 5 < L) (h : nt_Rel nr ln g1 g2) (kk : nt_LK p l e s m below meth c b i (nt_a w1 0) (nt_a w2 0) cells slots w2) : nt_LG p l e s m below meth c b cells slots 328 [(0, .ref b), (1, .ref (nt_a w1 0)), (2, .ref (nt_a w2 0)), (3, .int (nI i))] [] w1 g1 w2 g2 := by
  have hw1 : nt_isX w1 := ⟨nr, ln, hR1⟩
  have hcs : cells ≤ room_1.cells ∧ slots ≤ room_1.slots := ⟨by show cells ≤ 600000; omega, by show slots ≤ 7302250; omega⟩
  obtain ⟨v, ga, gb, e1, e2, h9⟩ := st_hears h (xs (i + 1)) (xs (i + 2)) (xs (i + 3))
  refine nt_Laload X dL_law_328 rfl 1 rfl ?_
  refine nt_Lget X hL i 1 dL_law_329 dL_law_330 dL_law_331 dL_law_332 dL_law_333 rfl rfl rfl 0 3 rfl rfl (by omega) ?_
  refine nt_Lget X hL i 2 dL_law_334 dL_law_335 dL_law_336 dL_law_337 dL_law_338 rfl rfl rfl 0 3 rfl rfl (by omega) ?_
  refine nt_Lget X hL i 3 dL_law_339 dL_law_340 dL_law_341 dL_law_342 dL_law_343 rfl rfl rfl 0 3 rfl rfl (by omega) ?_
  refine nt_Lci X hW1 hap (As := [.int (xs (i + 1)), .int (xs (i + 2)), .int (xs (i + 3))]) (rest := []) (nt_lX hw1 (Nat.le_of_ble_eq_true rfl)) (nt_e0 hw1) rfl (cNt_hears hw1 e1) wd_375 wd_372 wd_373 wd_374 wd_1 rfl hd_X8_hears ⟨Nat.le_of_ble_eq_true rfl, Nat.le_of_ble_eq_true rfl⟩ hcs (Nat.le_of_ble_eq_true rfl) rfl dL_law_344 ?_
  refine nt_Laload X dL_law_347 rfl 2 rfl ?_
  refine nt_Lget X hL i 1 dL_law_348 dL_law_349 dL_law_350 dL_law_351 dL_law_352 rfl rfl rfl 0 3 rfl rfl (by omega) ?_
  refine nt_Lget X hL i 2 dL_law_353 dL_law_354 dL_law_355 dL_law_356 dL_law_357 rfl rfl rfl 0 3 rfl rfl (by omega) ?_
  refine nt_Lget X hL i 3 dL_law_358 dL_law_359 dL_law_360 dL_law_361 dL_law_362 rfl rfl rfl 0 3 rfl rfl (by omega) ?_
  refine nt_Lswap ?_
  refine nt_Lci X hW2 (nt_apW_sym hap) (As := [.int (xs (i + 1)), .int (xs (i + 2)), .int (xs (i + 3))]) (rest := [.int v]) (nt_lM hw2 (Nat.le_of_ble_eq_true rfl)) (nt_m0 hw2) rfl (cMo_hears hw2 e2) wd_763 wd_760 wd_761 wd_762 wd_16 rfl hd_X9_hears ⟨Nat.le_of_ble_eq_true rfl, Nat.le_of_ble_eq_true rfl⟩ hcs (Nat.le_of_ble_eq_true rfl) rfl dL_law_363 ?_
  refine nt_Lswap ?_
  refine nt_Licmpeq X 1194 dL_law_366 (by decide) ?_
  refine nt_Lwiden (Nat.le_add_right _ 2) (Nat.le_add_right _ 163) ?_
  exact kk w1 nr ln _ _ hR1 hW1 hap rfl h9
set_option maxRecDepth 100000 in
set_option maxHeartbeats 4000000 in
theorem law_5 (X : nt_LX p s m meth c b L xs) (hL : L ≤ 384) (hR1 : nt_isR w1 nr ln) (hw2 : nt_isM w2) (hW1 : nt_LW s w1) (hW2 : nt_LW s w2) (hap : nt_apW w1 w2) (hcs2 : cells + 2 ≤ 600000 ∧ slots + 163 ≤ 7302250) {i : Nat} (hi : i + 5 < L) (h : nt_Rel nr ln g1 g2) (kk : nt_LK p l e s m below meth c b i (nt_a w1 0) (nt_a w2 0) cells slots w2) : nt_LG p l e s m below meth c b cells slots 371 [(0, .ref b), (1, .ref (nt_a w1 0)), (2, .ref (nt_a w2 0)), (3, .int (nI i))] [] w1 g1 w2 g2 := by
  have hw1 : nt_isX w1 := ⟨nr, ln, hR1⟩
  have hcs : cells ≤ room_1.cells ∧ slots ≤ room_1.slots := ⟨by show cells ≤ 600000; omega, by show slots ≤ 7302250; omega⟩
  obtain ⟨v, e1, e2, h9⟩ := st_told h (xs (i + 1)) (xs (i + 2)) (xs (i + 3))
  refine nt_Laload X dL_law_371 rfl 1 rfl ?_
  refine nt_Lget X hL i 1 dL_law_372 dL_law_373 dL_law_374 dL_law_375 dL_law_376 rfl rfl rfl 0 3 rfl rfl (by omega) ?_
  refine nt_Lget X hL i 2 dL_law_377 dL_law_378 dL_law_379 dL_law_380 dL_law_381 rfl rfl rfl 0 3 rfl rfl (by omega) ?_
  refine nt_Lget X hL i 3 dL_law_382 dL_law_383 dL_law_384 dL_law_385 dL_law_386 rfl rfl rfl 0 3 rfl rfl (by omega) ?_
  refine nt_Lci X hW1 hap (As := [.int (xs (i + 1)), .int (xs (i + 2)), .int (xs (i + 3))]) (rest := []) (nt_lX hw1 (Nat.le_of_ble_eq_true rfl)) (nt_e0 hw1) rfl (cNt_told hw1 e1) wd_383 wd_380 wd_381 wd_382 wd_1 rfl hd_X8_told ⟨Nat.le_of_ble_eq_true rfl, Nat.le_of_ble_eq_true rfl⟩ hcs (Nat.le_of_ble_eq_true rfl) rfl dL_law_387 ?_
  refine nt_Laload X dL_law_390 rfl 2 rfl ?_
  refine nt_Lget X hL i 1 dL_law_391 dL_law_392 dL_law_393 dL_law_394 dL_law_395 rfl rfl rfl 0 3 rfl rfl (by omega) ?_
  refine nt_Lget X hL i 2 dL_law_396 dL_law_397 dL_law_398 dL_law_399 dL_law_400 rfl rfl rfl 0 3 rfl rfl (by omega) ?_
  refine nt_Lget X hL i 3 dL_law_401 dL_law_402 dL_law_403 dL_law_404 dL_law_405 rfl rfl rfl 0 3 rfl rfl (by omega) ?_
  refine nt_Lswap ?_
  refine nt_Lci X hW2 (nt_apW_sym hap) (As := [.int (xs (i + 1)), .int (xs (i + 2)), .int (xs (i + 3))]) (rest := [.int v]) (nt_lM hw2 (Nat.le_of_ble_eq_true rfl)) (nt_m0 hw2) rfl (cMo_told hw2 e2) wd_767 wd_764 wd_765 wd_766 wd_16 rfl hd_X9_told ⟨Nat.le_of_ble_eq_true rfl, Nat.le_of_ble_eq_true rfl⟩ hcs (Nat.le_of_ble_eq_true rfl) rfl dL_law_406 ?_
  refine nt_Lswap ?_
  refine nt_Licmpeq X 1194 dL_law_409 (by decide) ?_
  refine nt_Lwiden (Nat.le_add_right _ 2) (Nat.le_add_right _ 163) ?_
  exact kk w1 nr ln _ _ hR1 hW1 hap rfl h9
set_option maxRecDepth 100000 in
set_option maxHeartbeats 4000000 in
theorem law_6 (X : nt_LX p s m meth c b L xs) (hL : L ≤ 384) (hR1 : nt_isR w1 nr ln) (hw2 : nt_isM w2) (hW1 : nt_LW s w1) (hW2 : nt_LW s w2) (hap : nt_apW w1 w2) (hcs2 : cells + 2 ≤ 600000 ∧ slots + 163 ≤ 7302250) {i : Nat} (hi : i + 5 < L) (h : nt_Rel nr ln g1 g2) (kk : nt_LK p l e s m below meth c b i (nt_a w1 0) (nt_a w2 0) cells slots w2) : nt_LG p l e s m below meth c b cells slots 414 [(0, .ref b), (1, .ref (nt_a w1 0)), (2, .ref (nt_a w2 0)), (3, .int (nI i))] [] w1 g1 w2 g2 := by
  have hw1 : nt_isX w1 := ⟨nr, ln, hR1⟩
  have hcs : cells ≤ room_1.cells ∧ slots ≤ room_1.slots := ⟨by show cells ≤ 600000; omega, by show slots ≤ 7302250; omega⟩
  obtain ⟨v, e1, e2, h9⟩ := st_one h (xs (i + 1)) (xs (i + 2))
  refine nt_Laload X dL_law_414 rfl 1 rfl ?_
  refine nt_Lget X hL i 1 dL_law_415 dL_law_416 dL_law_417 dL_law_418 dL_law_419 rfl rfl rfl 0 3 rfl rfl (by omega) ?_
  refine nt_Lget X hL i 2 dL_law_420 dL_law_421 dL_law_422 dL_law_423 dL_law_424 rfl rfl rfl 0 3 rfl rfl (by omega) ?_
  refine nt_Lci X hW1 hap (As := [.int (xs (i + 1)), .int (xs (i + 2))]) (rest := []) (nt_lX hw1 (Nat.le_of_ble_eq_true rfl)) (nt_e0 hw1) rfl (cNt_one hw1 e1) wd_392 wd_389 wd_390 wd_391 wd_1 rfl hd_X8_one ⟨Nat.le_of_ble_eq_true rfl, Nat.le_of_ble_eq_true rfl⟩ hcs (Nat.le_of_ble_eq_true rfl) rfl dL_law_425 ?_
  refine nt_Laload X dL_law_428 rfl 2 rfl ?_
  refine nt_Lget X hL i 1 dL_law_429 dL_law_430 dL_law_431 dL_law_432 dL_law_433 rfl rfl rfl 0 3 rfl rfl (by omega) ?_
  refine nt_Lget X hL i 2 dL_law_434 dL_law_435 dL_law_436 dL_law_437 dL_law_438 rfl rfl rfl 0 3 rfl rfl (by omega) ?_
  refine nt_Lswap ?_
  refine nt_Lci X hW2 (nt_apW_sym hap) (As := [.int (xs (i + 1)), .int (xs (i + 2))]) (rest := [.int v]) (nt_lM hw2 (Nat.le_of_ble_eq_true rfl)) (nt_m0 hw2) rfl (cMo_one hw2 e2) wd_777 wd_774 wd_775 wd_776 wd_16 rfl hd_X9_one ⟨Nat.le_of_ble_eq_true rfl, Nat.le_of_ble_eq_true rfl⟩ hcs (Nat.le_of_ble_eq_true rfl) rfl dL_law_439 ?_
  refine nt_Lswap ?_
  refine nt_Licmpeq X 1194 dL_law_442 (by decide) ?_
  refine nt_Lwiden (Nat.le_add_right _ 2) (Nat.le_add_right _ 163) ?_
  exact kk w1 nr ln _ _ hR1 hW1 hap rfl h9
set_option maxRecDepth 100000 in
set_option maxHeartbeats 4000000 in
theorem law_7 (X : nt_LX p s m meth c b L xs) (hL : L ≤ 384) (hR1 : nt_isR w1 nr ln) (hw2 : nt_isM w2) (hW1 : nt_LW s w1) (hW2 : nt_LW s w2) (hap : nt_apW w1 w2) (hcs2 : cells + 2 ≤ 600000 ∧ slots + 163 ≤ 7302250) {i : Nat} (hi : i + 5 < L) (h : nt_Rel nr ln g1 g2) (kk : nt_LK p l e s m below meth c b i (nt_a w1 0) (nt_a w2 0) cells slots w2) : nt_LG p l e s m below meth c b cells slots 447 [(0, .ref b), (1, .ref (nt_a w1 0)), (2, .ref (nt_a w2 0)), (3, .int (nI i))] [] w1 g1 w2 g2 := by
  have hw1 : nt_isX w1 := ⟨nr, ln, hR1⟩
  have hcs : cells ≤ room_1.cells ∧ slots ≤ room_1.slots := ⟨by show cells ≤ 600000; omega, by show slots ≤ 7302250; omega⟩
  obtain ⟨v, ga, gb, e1, e2, h9⟩ := st_feed h (xs (i + 1))
  refine nt_Laload X dL_law_447 rfl 1 rfl ?_
  refine nt_Lget X hL i 1 dL_law_448 dL_law_449 dL_law_450 dL_law_451 dL_law_452 rfl rfl rfl 0 3 rfl rfl (by omega) ?_
  refine nt_Lci X hW1 hap (As := [.int (xs (i + 1))]) (rest := []) (nt_lX hw1 (Nat.le_of_ble_eq_true rfl)) (nt_e0 hw1) rfl (cNt_feed hw1 e1) wd_400 wd_397 wd_398 wd_399 wd_1 rfl hd_X8_feed ⟨Nat.le_of_ble_eq_true rfl, Nat.le_of_ble_eq_true rfl⟩ hcs (Nat.le_of_ble_eq_true rfl) rfl dL_law_453 ?_
  refine nt_Laload X dL_law_456 rfl 2 rfl ?_
  refine nt_Lget X hL i 1 dL_law_457 dL_law_458 dL_law_459 dL_law_460 dL_law_461 rfl rfl rfl 0 3 rfl rfl (by omega) ?_
  refine nt_Lswap ?_
  refine nt_Lci X hW2 (nt_apW_sym hap) (As := [.int (xs (i + 1))]) (rest := [.int v]) (nt_lM hw2 (Nat.le_of_ble_eq_true rfl)) (nt_m0 hw2) rfl (cMo_feed hw2 e2) wd_785 wd_782 wd_783 wd_784 wd_16 rfl hd_X9_feed ⟨Nat.le_of_ble_eq_true rfl, Nat.le_of_ble_eq_true rfl⟩ hcs (Nat.le_of_ble_eq_true rfl) rfl dL_law_462 ?_
  refine nt_Lswap ?_
  refine nt_Licmpeq X 1194 dL_law_465 (by decide) ?_
  refine nt_Lwiden (Nat.le_add_right _ 2) (Nat.le_add_right _ 163) ?_
  exact kk w1 nr ln _ _ hR1 hW1 hap rfl h9
set_option maxRecDepth 100000 in
set_option maxHeartbeats 4000000 in
theorem law_8 (X : nt_LX p s m meth c b L xs) (hL : L ≤ 384) (hR1 : nt_isR w1 nr ln) (hw2 : nt_isM w2) (hW1 : nt_LW s w1) (hW2 : nt_LW s w2) (hap : nt_apW w1 w2) (hcs2 : cells + 2 ≤ 600000 ∧ slots + 163 ≤ 7302250) {i : Nat} (hi : i + 5 < L) (h : nt_Rel nr ln g1 g2) (kk : nt_LK p l e s m below meth c b i (nt_a w1 0) (nt_a w2 0) cells slots w2) : nt_LG p l e s m below meth c b cells slots 470 [(0, .ref b), (1, .ref (nt_a w1 0)), (2, .ref (nt_a w2 0)), (3, .int (nI i))] [] w1 g1 w2 g2 := by
  have hw1 : nt_isX w1 := ⟨nr, ln, hR1⟩
  have hcs : cells ≤ room_1.cells ∧ slots ≤ room_1.slots := ⟨by show cells ≤ 600000; omega, by show slots ≤ 7302250; omega⟩
  refine nt_Laload X dL_law_470 rfl 1 rfl ?_
  rcases st_text h with ⟨v, ga, gb, e1, e2, h9⟩ | ⟨v, e2x⟩
  · refine nt_Lci X hW1 hap (As := []) (rest := []) (nt_lX hw1 (Nat.le_of_ble_eq_true rfl)) (nt_e0 hw1) rfl (cNt_text hw1 e1) wd_404 wd_401 wd_402 wd_403 wd_1 rfl hd_X8_text ⟨Nat.le_of_ble_eq_true rfl, Nat.le_of_ble_eq_true rfl⟩ hcs (Nat.le_of_ble_eq_true rfl) rfl dL_law_471 ?_
    refine nt_Laload X dL_law_474 rfl 2 rfl ?_
    refine nt_Lswap ?_
    refine nt_Lci X hW2 (nt_apW_sym hap) (As := []) (rest := [.int v]) (nt_lM hw2 (Nat.le_of_ble_eq_true rfl)) (nt_m0 hw2) rfl (cMo_text hw2 e2) wd_789 wd_786 wd_787 wd_788 wd_16 rfl hd_X9_text ⟨Nat.le_of_ble_eq_true rfl, Nat.le_of_ble_eq_true rfl⟩ hcs (Nat.le_of_ble_eq_true rfl) rfl dL_law_475 ?_
    refine nt_Lswap ?_
    refine nt_Licmpeq X 1194 dL_law_478 (by decide) ?_
    refine nt_Lwiden (Nat.le_add_right _ 2) (Nat.le_add_right _ 163) ?_
    exact kk w1 nr ln _ _ hR1 hW1 hap rfl h9
  · obtain ⟨ga, gb, rb, hnf, hrd, hs0, hs9, hnf1, hi6, hnr, hem, e2, h9⟩ := e2x w1 hR1
    refine nt_Lctext X hW1 hap hR1 hnf hrd hs0 hs9 hnf1 hi6 hnr hem wd_401 hcs2 (Nat.le_of_ble_eq_true rfl) dL_law_471 (fun u hu1 hu2 hu3 hu4 => ?_)
    have hcs : cells + 2 ≤ room_1.cells ∧ slots + 163 ≤ room_1.slots := hcs2
    refine nt_Laload X dL_law_474 rfl 2 rfl ?_
    refine nt_Lswap ?_
    refine nt_Lci X hW2 (nt_apW_sym hu3) (As := []) (rest := [.int (ga 6 3 + 1 - 1)]) (nt_lM hw2 (Nat.le_of_ble_eq_true rfl)) (nt_m0 hw2) rfl (cMo_text hw2 e2) wd_789 wd_786 wd_787 wd_788 wd_16 rfl hd_X9_text ⟨Nat.le_of_ble_eq_true rfl, Nat.le_of_ble_eq_true rfl⟩ hcs (Nat.le_of_ble_eq_true rfl) rfl dL_law_475 ?_
    refine nt_Lswap ?_
    refine nt_Licmpeq X 1194 dL_law_478 (by decide) ?_
    exact kk u (nr + 1) _ _ _ hu1 hu2 hu3 hu4 h9
set_option maxRecDepth 100000 in
set_option maxHeartbeats 4000000 in
theorem law_9 (X : nt_LX p s m meth c b L xs) (hL : L ≤ 384) (hR1 : nt_isR w1 nr ln) (hw2 : nt_isM w2) (hW1 : nt_LW s w1) (hW2 : nt_LW s w2) (hap : nt_apW w1 w2) (hcs2 : cells + 2 ≤ 600000 ∧ slots + 163 ≤ 7302250) {i : Nat} (hi : i + 5 < L) (h : nt_Rel nr ln g1 g2) (kk : nt_LK p l e s m below meth c b i (nt_a w1 0) (nt_a w2 0) cells slots w2) : nt_LG p l e s m below meth c b cells slots 483 [(0, .ref b), (1, .ref (nt_a w1 0)), (2, .ref (nt_a w2 0)), (3, .int (nI i))] [] w1 g1 w2 g2 := by
  have hw1 : nt_isX w1 := ⟨nr, ln, hR1⟩
  have hcs : cells ≤ room_1.cells ∧ slots ≤ room_1.slots := ⟨by show cells ≤ 600000; omega, by show slots ≤ 7302250; omega⟩
  obtain ⟨v, ga, gb, e1, e2, h9⟩ := st_force h (xs (i + 1))
  refine nt_Laload X dL_law_483 rfl 1 rfl ?_
  refine nt_Lget X hL i 1 dL_law_484 dL_law_485 dL_law_486 dL_law_487 dL_law_488 rfl rfl rfl 0 3 rfl rfl (by omega) ?_
  refine nt_Lci X hW1 hap (As := [.int (xs (i + 1))]) (rest := []) (nt_lX hw1 (Nat.le_of_ble_eq_true rfl)) (nt_e0 hw1) rfl (cNt_force hw1 e1) wd_410 wd_407 wd_408 wd_409 wd_1 rfl hd_X8_force ⟨Nat.le_of_ble_eq_true rfl, Nat.le_of_ble_eq_true rfl⟩ hcs (Nat.le_of_ble_eq_true rfl) rfl dL_law_489 ?_
  refine nt_Laload X dL_law_492 rfl 2 rfl ?_
  refine nt_Lget X hL i 1 dL_law_493 dL_law_494 dL_law_495 dL_law_496 dL_law_497 rfl rfl rfl 0 3 rfl rfl (by omega) ?_
  refine nt_Lswap ?_
  refine nt_Lci X hW2 (nt_apW_sym hap) (As := [.int (xs (i + 1))]) (rest := [.int v]) (nt_lM hw2 (Nat.le_of_ble_eq_true rfl)) (nt_m0 hw2) rfl (cMo_force hw2 e2) wd_848 wd_845 wd_846 wd_847 wd_16 rfl hd_X9_force ⟨Nat.le_of_ble_eq_true rfl, Nat.le_of_ble_eq_true rfl⟩ hcs (Nat.le_of_ble_eq_true rfl) rfl dL_law_498 ?_
  refine nt_Lswap ?_
  refine nt_Licmpeq X 1194 dL_law_501 (by decide) ?_
  refine nt_Lwiden (Nat.le_add_right _ 2) (Nat.le_add_right _ 163) ?_
  exact kk w1 nr ln _ _ hR1 hW1 hap rfl h9
set_option maxRecDepth 100000 in
set_option maxHeartbeats 4000000 in
theorem law_10 (X : nt_LX p s m meth c b L xs) (hL : L ≤ 384) (hR1 : nt_isR w1 nr ln) (hw2 : nt_isM w2) (hW1 : nt_LW s w1) (hW2 : nt_LW s w2) (hap : nt_apW w1 w2) (hcs2 : cells + 2 ≤ 600000 ∧ slots + 163 ≤ 7302250) {i : Nat} (hi : i + 5 < L) (h : nt_Rel nr ln g1 g2) (kk : nt_LK p l e s m below meth c b i (nt_a w1 0) (nt_a w2 0) cells slots w2) : nt_LG p l e s m below meth c b cells slots 506 [(0, .ref b), (1, .ref (nt_a w1 0)), (2, .ref (nt_a w2 0)), (3, .int (nI i))] [] w1 g1 w2 g2 := by
  have hw1 : nt_isX w1 := ⟨nr, ln, hR1⟩
  have hcs : cells ≤ room_1.cells ∧ slots ≤ room_1.slots := ⟨by show cells ≤ 600000; omega, by show slots ≤ 7302250; omega⟩
  obtain ⟨v, ga, gb, e1, e2, h9⟩ := st_may h (xs (i + 1))
  refine nt_Laload X dL_law_506 rfl 1 rfl ?_
  refine nt_Lget X hL i 1 dL_law_507 dL_law_508 dL_law_509 dL_law_510 dL_law_511 rfl rfl rfl 0 3 rfl rfl (by omega) ?_
  refine nt_Lci X hW1 hap (As := [.int (xs (i + 1))]) (rest := []) (nt_lX hw1 (Nat.le_of_ble_eq_true rfl)) (nt_e0 hw1) rfl (cNt_may hw1 hR1 e1) wd_416 wd_413 wd_414 wd_415 wd_1 rfl hd_X8_may ⟨Nat.le_of_ble_eq_true rfl, Nat.le_of_ble_eq_true rfl⟩ hcs (Nat.le_of_ble_eq_true rfl) rfl dL_law_512 ?_
  refine nt_Laload X dL_law_515 rfl 2 rfl ?_
  refine nt_Lget X hL i 1 dL_law_516 dL_law_517 dL_law_518 dL_law_519 dL_law_520 rfl rfl rfl 0 3 rfl rfl (by omega) ?_
  refine nt_Lswap ?_
  refine nt_Lci X hW2 (nt_apW_sym hap) (As := [.int (xs (i + 1))]) (rest := [.int v]) (nt_lM hw2 (Nat.le_of_ble_eq_true rfl)) (nt_m0 hw2) rfl (cMo_may hw2 e2) wd_852 wd_849 wd_850 wd_851 wd_16 rfl hd_X9_may ⟨Nat.le_of_ble_eq_true rfl, Nat.le_of_ble_eq_true rfl⟩ hcs (Nat.le_of_ble_eq_true rfl) rfl dL_law_521 ?_
  refine nt_Lswap ?_
  refine nt_Licmpeq X 1194 dL_law_524 (by decide) ?_
  refine nt_Lwiden (Nat.le_add_right _ 2) (Nat.le_add_right _ 163) ?_
  exact kk w1 nr ln _ _ hR1 hW1 hap rfl h9
set_option maxRecDepth 100000 in
set_option maxHeartbeats 4000000 in
theorem law_11 (X : nt_LX p s m meth c b L xs) (hL : L ≤ 384) (hR1 : nt_isR w1 nr ln) (hw2 : nt_isM w2) (hW1 : nt_LW s w1) (hW2 : nt_LW s w2) (hap : nt_apW w1 w2) (hcs2 : cells + 2 ≤ 600000 ∧ slots + 163 ≤ 7302250) {i : Nat} (hi : i + 5 < L) (h : nt_Rel nr ln g1 g2) (kk : nt_LK p l e s m below meth c b i (nt_a w1 0) (nt_a w2 0) cells slots w2) : nt_LG p l e s m below meth c b cells slots 529 [(0, .ref b), (1, .ref (nt_a w1 0)), (2, .ref (nt_a w2 0)), (3, .int (nI i))] [] w1 g1 w2 g2 := by
  have hw1 : nt_isX w1 := ⟨nr, ln, hR1⟩
  have hcs : cells ≤ room_1.cells ∧ slots ≤ room_1.slots := ⟨by show cells ≤ 600000; omega, by show slots ≤ 7302250; omega⟩
  obtain ⟨v, ga, gb, e1, e2, h9⟩ := st_by h (xs (i + 1)) (xs (i + 2))
  refine nt_Laload X dL_law_529 rfl 1 rfl ?_
  refine nt_Lget X hL i 1 dL_law_530 dL_law_531 dL_law_532 dL_law_533 dL_law_534 rfl rfl rfl 0 3 rfl rfl (by omega) ?_
  refine nt_Lget X hL i 2 dL_law_535 dL_law_536 dL_law_537 dL_law_538 dL_law_539 rfl rfl rfl 0 3 rfl rfl (by omega) ?_
  refine nt_Lci X hW1 hap (As := [.int (xs (i + 1)), .int (xs (i + 2))]) (rest := []) (nt_lX hw1 (Nat.le_of_ble_eq_true rfl)) (nt_e0 hw1) rfl (cNt_by hw1 hR1 e1) wd_450 wd_447 wd_448 wd_449 wd_1 rfl hd_X8_by ⟨Nat.le_of_ble_eq_true rfl, Nat.le_of_ble_eq_true rfl⟩ hcs (Nat.le_of_ble_eq_true rfl) rfl dL_law_540 ?_
  refine nt_Laload X dL_law_543 rfl 2 rfl ?_
  refine nt_Lget X hL i 1 dL_law_544 dL_law_545 dL_law_546 dL_law_547 dL_law_548 rfl rfl rfl 0 3 rfl rfl (by omega) ?_
  refine nt_Lget X hL i 2 dL_law_549 dL_law_550 dL_law_551 dL_law_552 dL_law_553 rfl rfl rfl 0 3 rfl rfl (by omega) ?_
  refine nt_Lswap ?_
  refine nt_Lci X hW2 (nt_apW_sym hap) (As := [.int (xs (i + 1)), .int (xs (i + 2))]) (rest := [.int v]) (nt_lM hw2 (Nat.le_of_ble_eq_true rfl)) (nt_m0 hw2) rfl (cMo_by hw2 e2) wd_880 wd_877 wd_878 wd_879 wd_16 rfl hd_X9_by ⟨Nat.le_of_ble_eq_true rfl, Nat.le_of_ble_eq_true rfl⟩ hcs (Nat.le_of_ble_eq_true rfl) rfl dL_law_554 ?_
  refine nt_Lswap ?_
  refine nt_Licmpeq X 1194 dL_law_557 (by decide) ?_
  refine nt_Lwiden (Nat.le_add_right _ 2) (Nat.le_add_right _ 163) ?_
  exact kk w1 nr ln _ _ hR1 hW1 hap rfl h9
set_option maxRecDepth 100000 in
set_option maxHeartbeats 4000000 in
theorem law_12 (X : nt_LX p s m meth c b L xs) (hL : L ≤ 384) (hR1 : nt_isR w1 nr ln) (hw2 : nt_isM w2) (hW1 : nt_LW s w1) (hW2 : nt_LW s w2) (hap : nt_apW w1 w2) (hcs2 : cells + 2 ≤ 600000 ∧ slots + 163 ≤ 7302250) {i : Nat} (hi : i + 5 < L) (h : nt_Rel nr ln g1 g2) (kk : nt_LK p l e s m below meth c b i (nt_a w1 0) (nt_a w2 0) cells slots w2) : nt_LG p l e s m below meth c b cells slots 562 [(0, .ref b), (1, .ref (nt_a w1 0)), (2, .ref (nt_a w2 0)), (3, .int (nI i))] [] w1 g1 w2 g2 := by
  have hw1 : nt_isX w1 := ⟨nr, ln, hR1⟩
  have hcs : cells ≤ room_1.cells ∧ slots ≤ room_1.slots := ⟨by show cells ≤ 600000; omega, by show slots ≤ 7302250; omega⟩
  obtain ⟨v, ga, gb, e1, e2, h9⟩ := st_worth h (xs (i + 1)) (xs (i + 2))
  refine nt_Laload X dL_law_562 rfl 1 rfl ?_
  refine nt_Lget X hL i 1 dL_law_563 dL_law_564 dL_law_565 dL_law_566 dL_law_567 rfl rfl rfl 0 3 rfl rfl (by omega) ?_
  refine nt_Lget X hL i 2 dL_law_568 dL_law_569 dL_law_570 dL_law_571 dL_law_572 rfl rfl rfl 0 3 rfl rfl (by omega) ?_
  refine nt_Lcl X hW1 hap (As := [.int (xs (i + 1)), .int (xs (i + 2))]) (rest := []) (nt_lX hw1 (Nat.le_of_ble_eq_true rfl)) (nt_e0 hw1) rfl (cNt_worth hw1 hR1 e1) wd_459 wd_456 wd_457 wd_458 wd_1 rfl hd_X8_worth ⟨Nat.le_of_ble_eq_true rfl, Nat.le_of_ble_eq_true rfl⟩ hcs (Nat.le_of_ble_eq_true rfl) rfl dL_law_573 ?_
  refine nt_Laload X dL_law_576 rfl 2 rfl ?_
  refine nt_Lget X hL i 1 dL_law_577 dL_law_578 dL_law_579 dL_law_580 dL_law_581 rfl rfl rfl 0 3 rfl rfl (by omega) ?_
  refine nt_Lget X hL i 2 dL_law_582 dL_law_583 dL_law_584 dL_law_585 dL_law_586 rfl rfl rfl 0 3 rfl rfl (by omega) ?_
  refine nt_Lswap ?_
  refine nt_Lcl X hW2 (nt_apW_sym hap) (As := [.int (xs (i + 1)), .int (xs (i + 2))]) (rest := [.long v]) (nt_lM hw2 (Nat.le_of_ble_eq_true rfl)) (nt_m0 hw2) rfl (cMo_worth hw2 e2) wd_884 wd_881 wd_882 wd_883 wd_16 rfl hd_X9_worth ⟨Nat.le_of_ble_eq_true rfl, Nat.le_of_ble_eq_true rfl⟩ hcs (Nat.le_of_ble_eq_true rfl) rfl dL_law_587 ?_
  refine nt_Lswap ?_
  refine nt_Llcmp X 1194 dL_law_590 dL_law_591 (by decide) ?_
  refine nt_Lwiden (Nat.le_add_right _ 2) (Nat.le_add_right _ 163) ?_
  exact kk w1 nr ln _ _ hR1 hW1 hap rfl h9
set_option maxRecDepth 100000 in
set_option maxHeartbeats 4000000 in
theorem law_13 (X : nt_LX p s m meth c b L xs) (hL : L ≤ 384) (hR1 : nt_isR w1 nr ln) (hw2 : nt_isM w2) (hW1 : nt_LW s w1) (hW2 : nt_LW s w2) (hap : nt_apW w1 w2) (hcs2 : cells + 2 ≤ 600000 ∧ slots + 163 ≤ 7302250) {i : Nat} (hi : i + 5 < L) (h : nt_Rel nr ln g1 g2) (kk : nt_LK p l e s m below meth c b i (nt_a w1 0) (nt_a w2 0) cells slots w2) : nt_LG p l e s m below meth c b cells slots 596 [(0, .ref b), (1, .ref (nt_a w1 0)), (2, .ref (nt_a w2 0)), (3, .int (nI i))] [] w1 g1 w2 g2 := by
  have hw1 : nt_isX w1 := ⟨nr, ln, hR1⟩
  have hcs : cells ≤ room_1.cells ∧ slots ≤ room_1.slots := ⟨by show cells ≤ 600000; omega, by show slots ≤ 7302250; omega⟩
  obtain ⟨v, ga, gb, e1, e2, h9⟩ := st_most h (xs (i + 1)) (xs (i + 2))
  refine nt_Laload X dL_law_596 rfl 1 rfl ?_
  refine nt_Lget X hL i 1 dL_law_597 dL_law_598 dL_law_599 dL_law_600 dL_law_601 rfl rfl rfl 0 3 rfl rfl (by omega) ?_
  refine nt_Lget X hL i 2 dL_law_602 dL_law_603 dL_law_604 dL_law_605 dL_law_606 rfl rfl rfl 0 3 rfl rfl (by omega) ?_
  refine nt_Lcl X hW1 hap (As := [.int (xs (i + 1)), .int (xs (i + 2))]) (rest := []) (nt_lX hw1 (Nat.le_of_ble_eq_true rfl)) (nt_e0 hw1) rfl (cNt_most hw1 hR1 e1) wd_475 wd_472 wd_473 wd_474 wd_1 rfl hd_X8_most ⟨Nat.le_of_ble_eq_true rfl, Nat.le_of_ble_eq_true rfl⟩ hcs (Nat.le_of_ble_eq_true rfl) rfl dL_law_607 ?_
  refine nt_Laload X dL_law_610 rfl 2 rfl ?_
  refine nt_Lget X hL i 1 dL_law_611 dL_law_612 dL_law_613 dL_law_614 dL_law_615 rfl rfl rfl 0 3 rfl rfl (by omega) ?_
  refine nt_Lget X hL i 2 dL_law_616 dL_law_617 dL_law_618 dL_law_619 dL_law_620 rfl rfl rfl 0 3 rfl rfl (by omega) ?_
  refine nt_Lswap ?_
  refine nt_Lcl X hW2 (nt_apW_sym hap) (As := [.int (xs (i + 1)), .int (xs (i + 2))]) (rest := [.long v]) (nt_lM hw2 (Nat.le_of_ble_eq_true rfl)) (nt_m0 hw2) rfl (cMo_most hw2 e2) wd_895 wd_892 wd_893 wd_894 wd_16 rfl hd_X9_most ⟨Nat.le_of_ble_eq_true rfl, Nat.le_of_ble_eq_true rfl⟩ hcs (Nat.le_of_ble_eq_true rfl) rfl dL_law_621 ?_
  refine nt_Lswap ?_
  refine nt_Llcmp X 1194 dL_law_624 dL_law_625 (by decide) ?_
  refine nt_Lwiden (Nat.le_add_right _ 2) (Nat.le_add_right _ 163) ?_
  exact kk w1 nr ln _ _ hR1 hW1 hap rfl h9
set_option maxRecDepth 100000 in
set_option maxHeartbeats 4000000 in
theorem law_14 (X : nt_LX p s m meth c b L xs) (hL : L ≤ 384) (hR1 : nt_isR w1 nr ln) (hw2 : nt_isM w2) (hW1 : nt_LW s w1) (hW2 : nt_LW s w2) (hap : nt_apW w1 w2) (hcs2 : cells + 2 ≤ 600000 ∧ slots + 163 ≤ 7302250) {i : Nat} (hi : i + 5 < L) (h : nt_Rel nr ln g1 g2) (kk : nt_LK p l e s m below meth c b i (nt_a w1 0) (nt_a w2 0) cells slots w2) : nt_LG p l e s m below meth c b cells slots 630 [(0, .ref b), (1, .ref (nt_a w1 0)), (2, .ref (nt_a w2 0)), (3, .int (nI i))] [] w1 g1 w2 g2 := by
  have hw1 : nt_isX w1 := ⟨nr, ln, hR1⟩
  have hcs : cells ≤ room_1.cells ∧ slots ≤ room_1.slots := ⟨by show cells ≤ 600000; omega, by show slots ≤ 7302250; omega⟩
  obtain ⟨v, ga, gb, e1, e2, h9⟩ := st_tell h (xs (i + 1)) (xs (i + 2))
  refine nt_Laload X dL_law_630 rfl 1 rfl ?_
  refine nt_Lget X hL i 1 dL_law_631 dL_law_632 dL_law_633 dL_law_634 dL_law_635 rfl rfl rfl 0 3 rfl rfl (by omega) ?_
  refine nt_Lget X hL i 2 dL_law_636 dL_law_637 dL_law_638 dL_law_639 dL_law_640 rfl rfl rfl 0 3 rfl rfl (by omega) ?_
  refine nt_Lci X hW1 hap (As := [.int (xs (i + 1)), .int (xs (i + 2))]) (rest := []) (nt_lX hw1 (Nat.le_of_ble_eq_true rfl)) (nt_e0 hw1) rfl (cNt_tell hw1 hR1 e1) wd_481 wd_478 wd_479 wd_480 wd_1 rfl hd_X8_tell ⟨Nat.le_of_ble_eq_true rfl, Nat.le_of_ble_eq_true rfl⟩ hcs (Nat.le_of_ble_eq_true rfl) rfl dL_law_641 ?_
  refine nt_Laload X dL_law_644 rfl 2 rfl ?_
  refine nt_Lget X hL i 1 dL_law_645 dL_law_646 dL_law_647 dL_law_648 dL_law_649 rfl rfl rfl 0 3 rfl rfl (by omega) ?_
  refine nt_Lget X hL i 2 dL_law_650 dL_law_651 dL_law_652 dL_law_653 dL_law_654 rfl rfl rfl 0 3 rfl rfl (by omega) ?_
  refine nt_Lswap ?_
  refine nt_Lci X hW2 (nt_apW_sym hap) (As := [.int (xs (i + 1)), .int (xs (i + 2))]) (rest := [.int v]) (nt_lM hw2 (Nat.le_of_ble_eq_true rfl)) (nt_m0 hw2) rfl (cMo_tell hw2 e2) wd_902 wd_899 wd_900 wd_901 wd_16 rfl hd_X9_tell ⟨Nat.le_of_ble_eq_true rfl, Nat.le_of_ble_eq_true rfl⟩ hcs (Nat.le_of_ble_eq_true rfl) rfl dL_law_655 ?_
  refine nt_Lswap ?_
  refine nt_Licmpeq X 1194 dL_law_658 (by decide) ?_
  refine nt_Lwiden (Nat.le_add_right _ 2) (Nat.le_add_right _ 163) ?_
  exact kk w1 nr ln _ _ hR1 hW1 hap rfl h9
set_option maxRecDepth 100000 in
set_option maxHeartbeats 4000000 in
theorem law_15 (X : nt_LX p s m meth c b L xs) (hL : L ≤ 384) (hR1 : nt_isR w1 nr ln) (hw2 : nt_isM w2) (hW1 : nt_LW s w1) (hW2 : nt_LW s w2) (hap : nt_apW w1 w2) (hcs2 : cells + 2 ≤ 600000 ∧ slots + 163 ≤ 7302250) {i : Nat} (hi : i + 5 < L) (h : nt_Rel nr ln g1 g2) (kk : nt_LK p l e s m below meth c b i (nt_a w1 0) (nt_a w2 0) cells slots w2) : nt_LG p l e s m below meth c b cells slots 663 [(0, .ref b), (1, .ref (nt_a w1 0)), (2, .ref (nt_a w2 0)), (3, .int (nI i))] [] w1 g1 w2 g2 := by
  have hw1 : nt_isX w1 := ⟨nr, ln, hR1⟩
  have hcs : cells ≤ room_1.cells ∧ slots ≤ room_1.slots := ⟨by show cells ≤ 600000; omega, by show slots ≤ 7302250; omega⟩
  obtain ⟨v, ga, gb, e1, e2, h9⟩ := st_pass h 
  refine nt_Laload X dL_law_663 rfl 1 rfl ?_
  refine nt_Lci X hW1 hap (As := []) (rest := []) (nt_lX hw1 (Nat.le_of_ble_eq_true rfl)) (nt_e0 hw1) rfl (cNt_pass hw1 e1) wd_488 wd_485 wd_486 wd_487 wd_1 rfl hd_X8_pass ⟨Nat.le_of_ble_eq_true rfl, Nat.le_of_ble_eq_true rfl⟩ hcs (Nat.le_of_ble_eq_true rfl) rfl dL_law_664 ?_
  refine nt_Laload X dL_law_667 rfl 2 rfl ?_
  refine nt_Lswap ?_
  refine nt_Lci X hW2 (nt_apW_sym hap) (As := []) (rest := [.int v]) (nt_lM hw2 (Nat.le_of_ble_eq_true rfl)) (nt_m0 hw2) rfl (cMo_pass hw2 e2) wd_909 wd_906 wd_907 wd_908 wd_16 rfl hd_X9_pass ⟨Nat.le_of_ble_eq_true rfl, Nat.le_of_ble_eq_true rfl⟩ hcs (Nat.le_of_ble_eq_true rfl) rfl dL_law_668 ?_
  refine nt_Lswap ?_
  refine nt_Licmpeq X 1194 dL_law_671 (by decide) ?_
  refine nt_Lwiden (Nat.le_add_right _ 2) (Nat.le_add_right _ 163) ?_
  exact kk w1 nr ln _ _ hR1 hW1 hap rfl h9
set_option maxRecDepth 100000 in
set_option maxHeartbeats 4000000 in
theorem law_16 (X : nt_LX p s m meth c b L xs) (hL : L ≤ 384) (hR1 : nt_isR w1 nr ln) (hw2 : nt_isM w2) (hW1 : nt_LW s w1) (hW2 : nt_LW s w2) (hap : nt_apW w1 w2) (hcs2 : cells + 2 ≤ 600000 ∧ slots + 163 ≤ 7302250) {i : Nat} (hi : i + 5 < L) (h : nt_Rel nr ln g1 g2) (kk : nt_LK p l e s m below meth c b i (nt_a w1 0) (nt_a w2 0) cells slots w2) : nt_LG p l e s m below meth c b cells slots 676 [(0, .ref b), (1, .ref (nt_a w1 0)), (2, .ref (nt_a w2 0)), (3, .int (nI i))] [] w1 g1 w2 g2 := by
  have hw1 : nt_isX w1 := ⟨nr, ln, hR1⟩
  have hcs : cells ≤ room_1.cells ∧ slots ≤ room_1.slots := ⟨by show cells ≤ 600000; omega, by show slots ≤ 7302250; omega⟩
  obtain ⟨v, ga, gb, e1, e2, h9⟩ := st_goesOn h (xs (i + 1)) (xs (i + 2))
  refine nt_Laload X dL_law_676 rfl 1 rfl ?_
  refine nt_Lget X hL i 1 dL_law_677 dL_law_678 dL_law_679 dL_law_680 dL_law_681 rfl rfl rfl 0 3 rfl rfl (by omega) ?_
  refine nt_Lget X hL i 2 dL_law_682 dL_law_683 dL_law_684 dL_law_685 dL_law_686 rfl rfl rfl 0 3 rfl rfl (by omega) ?_
  refine nt_Lci X hW1 hap (As := [.int (xs (i + 1)), .int (xs (i + 2))]) (rest := []) (nt_lX hw1 (Nat.le_of_ble_eq_true rfl)) (nt_e0 hw1) rfl (cNt_goesOn hw1 hR1 e1) wd_495 wd_492 wd_493 wd_494 wd_1 rfl hd_X8_goesOn ⟨Nat.le_of_ble_eq_true rfl, Nat.le_of_ble_eq_true rfl⟩ hcs (Nat.le_of_ble_eq_true rfl) rfl dL_law_687 ?_
  refine nt_Laload X dL_law_690 rfl 2 rfl ?_
  refine nt_Lget X hL i 1 dL_law_691 dL_law_692 dL_law_693 dL_law_694 dL_law_695 rfl rfl rfl 0 3 rfl rfl (by omega) ?_
  refine nt_Lget X hL i 2 dL_law_696 dL_law_697 dL_law_698 dL_law_699 dL_law_700 rfl rfl rfl 0 3 rfl rfl (by omega) ?_
  refine nt_Lswap ?_
  refine nt_Lci X hW2 (nt_apW_sym hap) (As := [.int (xs (i + 1)), .int (xs (i + 2))]) (rest := [.int v]) (nt_lM hw2 (Nat.le_of_ble_eq_true rfl)) (nt_m0 hw2) rfl (cMo_goesOn hw2 e2) wd_913 wd_910 wd_911 wd_912 wd_16 rfl hd_X9_goesOn ⟨Nat.le_of_ble_eq_true rfl, Nat.le_of_ble_eq_true rfl⟩ hcs (Nat.le_of_ble_eq_true rfl) rfl dL_law_701 ?_
  refine nt_Lswap ?_
  refine nt_Licmpeq X 1194 dL_law_704 (by decide) ?_
  refine nt_Lwiden (Nat.le_add_right _ 2) (Nat.le_add_right _ 163) ?_
  exact kk w1 nr ln _ _ hR1 hW1 hap rfl h9
set_option maxRecDepth 100000 in
set_option maxHeartbeats 4000000 in
theorem law_17 (X : nt_LX p s m meth c b L xs) (hL : L ≤ 384) (hR1 : nt_isR w1 nr ln) (hw2 : nt_isM w2) (hW1 : nt_LW s w1) (hW2 : nt_LW s w2) (hap : nt_apW w1 w2) (hcs2 : cells + 2 ≤ 600000 ∧ slots + 163 ≤ 7302250) {i : Nat} (hi : i + 5 < L) (h : nt_Rel nr ln g1 g2) (kk : nt_LK p l e s m below meth c b i (nt_a w1 0) (nt_a w2 0) cells slots w2) : nt_LG p l e s m below meth c b cells slots 709 [(0, .ref b), (1, .ref (nt_a w1 0)), (2, .ref (nt_a w2 0)), (3, .int (nI i))] [] w1 g1 w2 g2 := by
  have hw1 : nt_isX w1 := ⟨nr, ln, hR1⟩
  have hcs : cells ≤ room_1.cells ∧ slots ≤ room_1.slots := ⟨by show cells ≤ 600000; omega, by show slots ≤ 7302250; omega⟩
  obtain ⟨v, ga, gb, e1, e2, h9⟩ := st_spread h (xs (i + 1)) (xs (i + 2))
  refine nt_Laload X dL_law_709 rfl 1 rfl ?_
  refine nt_Lget X hL i 1 dL_law_710 dL_law_711 dL_law_712 dL_law_713 dL_law_714 rfl rfl rfl 0 3 rfl rfl (by omega) ?_
  refine nt_Lget X hL i 2 dL_law_715 dL_law_716 dL_law_717 dL_law_718 dL_law_719 rfl rfl rfl 0 3 rfl rfl (by omega) ?_
  refine nt_Lci X hW1 hap (As := [.int (xs (i + 1)), .int (xs (i + 2))]) (rest := []) (nt_lX hw1 (Nat.le_of_ble_eq_true rfl)) (nt_e0 hw1) rfl (cNt_spread hw1 hR1 e1) wd_511 wd_508 wd_509 wd_510 wd_1 rfl hd_X8_spread ⟨Nat.le_of_ble_eq_true rfl, Nat.le_of_ble_eq_true rfl⟩ hcs (Nat.le_of_ble_eq_true rfl) rfl dL_law_720 ?_
  refine nt_Laload X dL_law_723 rfl 2 rfl ?_
  refine nt_Lget X hL i 1 dL_law_724 dL_law_725 dL_law_726 dL_law_727 dL_law_728 rfl rfl rfl 0 3 rfl rfl (by omega) ?_
  refine nt_Lget X hL i 2 dL_law_729 dL_law_730 dL_law_731 dL_law_732 dL_law_733 rfl rfl rfl 0 3 rfl rfl (by omega) ?_
  refine nt_Lswap ?_
  refine nt_Lci X hW2 (nt_apW_sym hap) (As := [.int (xs (i + 1)), .int (xs (i + 2))]) (rest := [.int v]) (nt_lM hw2 (Nat.le_of_ble_eq_true rfl)) (nt_m0 hw2) rfl (cMo_spread hw2 e2) wd_926 wd_923 wd_924 wd_925 wd_16 rfl hd_X9_spread ⟨Nat.le_of_ble_eq_true rfl, Nat.le_of_ble_eq_true rfl⟩ hcs (Nat.le_of_ble_eq_true rfl) rfl dL_law_734 ?_
  refine nt_Lswap ?_
  refine nt_Licmpeq X 1194 dL_law_737 (by decide) ?_
  refine nt_Lwiden (Nat.le_add_right _ 2) (Nat.le_add_right _ 163) ?_
  exact kk w1 nr ln _ _ hR1 hW1 hap rfl h9
set_option maxRecDepth 100000 in
set_option maxHeartbeats 4000000 in
theorem law_18 (X : nt_LX p s m meth c b L xs) (hL : L ≤ 384) (hR1 : nt_isR w1 nr ln) (hw2 : nt_isM w2) (hW1 : nt_LW s w1) (hW2 : nt_LW s w2) (hap : nt_apW w1 w2) (hcs2 : cells + 2 ≤ 600000 ∧ slots + 163 ≤ 7302250) {i : Nat} (hi : i + 5 < L) (h : nt_Rel nr ln g1 g2) (kk : nt_LK p l e s m below meth c b i (nt_a w1 0) (nt_a w2 0) cells slots w2) : nt_LG p l e s m below meth c b cells slots 742 [(0, .ref b), (1, .ref (nt_a w1 0)), (2, .ref (nt_a w2 0)), (3, .int (nI i))] [] w1 g1 w2 g2 := by
  have hw1 : nt_isX w1 := ⟨nr, ln, hR1⟩
  have hcs : cells ≤ room_1.cells ∧ slots ≤ room_1.slots := ⟨by show cells ≤ 600000; omega, by show slots ≤ 7302250; omega⟩
  obtain ⟨v, ga, gb, e1, e2, h9⟩ := st_keepAway h (xs (i + 1))
  refine nt_Laload X dL_law_742 rfl 1 rfl ?_
  refine nt_Lget X hL i 1 dL_law_743 dL_law_744 dL_law_745 dL_law_746 dL_law_747 rfl rfl rfl 0 3 rfl rfl (by omega) ?_
  refine nt_Lci X hW1 hap (As := [.int (xs (i + 1))]) (rest := []) (nt_lX hw1 (Nat.le_of_ble_eq_true rfl)) (nt_e0 hw1) rfl (cNt_keepAway hw1 hR1 e1) wd_538 wd_535 wd_536 wd_537 wd_1 rfl hd_X8_keepAway ⟨Nat.le_of_ble_eq_true rfl, Nat.le_of_ble_eq_true rfl⟩ hcs (Nat.le_of_ble_eq_true rfl) rfl dL_law_748 ?_
  refine nt_Laload X dL_law_751 rfl 2 rfl ?_
  refine nt_Lget X hL i 1 dL_law_752 dL_law_753 dL_law_754 dL_law_755 dL_law_756 rfl rfl rfl 0 3 rfl rfl (by omega) ?_
  refine nt_Lswap ?_
  refine nt_Lci X hW2 (nt_apW_sym hap) (As := [.int (xs (i + 1))]) (rest := [.int v]) (nt_lM hw2 (Nat.le_of_ble_eq_true rfl)) (nt_m0 hw2) rfl (cMo_keepAway hw2 e2) wd_942 wd_939 wd_940 wd_941 wd_16 rfl hd_X9_keepAway ⟨Nat.le_of_ble_eq_true rfl, Nat.le_of_ble_eq_true rfl⟩ hcs (Nat.le_of_ble_eq_true rfl) rfl dL_law_757 ?_
  refine nt_Lswap ?_
  refine nt_Licmpeq X 1194 dL_law_760 (by decide) ?_
  refine nt_Lwiden (Nat.le_add_right _ 2) (Nat.le_add_right _ 163) ?_
  exact kk w1 nr ln _ _ hR1 hW1 hap rfl h9
set_option maxRecDepth 100000 in
set_option maxHeartbeats 4000000 in
theorem law_19 (X : nt_LX p s m meth c b L xs) (hL : L ≤ 384) (hR1 : nt_isR w1 nr ln) (hw2 : nt_isM w2) (hW1 : nt_LW s w1) (hW2 : nt_LW s w2) (hap : nt_apW w1 w2) (hcs2 : cells + 2 ≤ 600000 ∧ slots + 163 ≤ 7302250) {i : Nat} (hi : i + 5 < L) (h : nt_Rel nr ln g1 g2) (kk : nt_LK p l e s m below meth c b i (nt_a w1 0) (nt_a w2 0) cells slots w2) : nt_LG p l e s m below meth c b cells slots 765 [(0, .ref b), (1, .ref (nt_a w1 0)), (2, .ref (nt_a w2 0)), (3, .int (nI i))] [] w1 g1 w2 g2 := by
  have hw1 : nt_isX w1 := ⟨nr, ln, hR1⟩
  have hcs : cells ≤ room_1.cells ∧ slots ≤ room_1.slots := ⟨by show cells ≤ 600000; omega, by show slots ≤ 7302250; omega⟩
  obtain ⟨v, ga, gb, e1, e2, h9⟩ := st_send h (xs (i + 1)) (xs (i + 2))
  refine nt_Laload X dL_law_765 rfl 1 rfl ?_
  refine nt_Lget X hL i 1 dL_law_766 dL_law_767 dL_law_768 dL_law_769 dL_law_770 rfl rfl rfl 0 3 rfl rfl (by omega) ?_
  refine nt_Lget X hL i 2 dL_law_771 dL_law_772 dL_law_773 dL_law_774 dL_law_775 rfl rfl rfl 0 3 rfl rfl (by omega) ?_
  refine nt_Lci X hW1 hap (As := [.int (xs (i + 1)), .int (xs (i + 2))]) (rest := []) (nt_lX hw1 (Nat.le_of_ble_eq_true rfl)) (nt_e0 hw1) rfl (cNt_send hw1 hR1 e1) wd_542 wd_539 wd_540 wd_541 wd_1 rfl hd_X8_send ⟨Nat.le_of_ble_eq_true rfl, Nat.le_of_ble_eq_true rfl⟩ hcs (Nat.le_of_ble_eq_true rfl) rfl dL_law_776 ?_
  refine nt_Laload X dL_law_779 rfl 2 rfl ?_
  refine nt_Lget X hL i 1 dL_law_780 dL_law_781 dL_law_782 dL_law_783 dL_law_784 rfl rfl rfl 0 3 rfl rfl (by omega) ?_
  refine nt_Lget X hL i 2 dL_law_785 dL_law_786 dL_law_787 dL_law_788 dL_law_789 rfl rfl rfl 0 3 rfl rfl (by omega) ?_
  refine nt_Lswap ?_
  refine nt_Lci X hW2 (nt_apW_sym hap) (As := [.int (xs (i + 1)), .int (xs (i + 2))]) (rest := [.int v]) (nt_lM hw2 (Nat.le_of_ble_eq_true rfl)) (nt_m0 hw2) rfl (cMo_send hw2 e2) wd_946 wd_943 wd_944 wd_945 wd_16 rfl hd_X9_send ⟨Nat.le_of_ble_eq_true rfl, Nat.le_of_ble_eq_true rfl⟩ hcs (Nat.le_of_ble_eq_true rfl) rfl dL_law_790 ?_
  refine nt_Lswap ?_
  refine nt_Licmpeq X 1194 dL_law_793 (by decide) ?_
  refine nt_Lwiden (Nat.le_add_right _ 2) (Nat.le_add_right _ 163) ?_
  exact kk w1 nr ln _ _ hR1 hW1 hap rfl h9
set_option maxRecDepth 100000 in
set_option maxHeartbeats 4000000 in
theorem law_20 (X : nt_LX p s m meth c b L xs) (hL : L ≤ 384) (hR1 : nt_isR w1 nr ln) (hw2 : nt_isM w2) (hW1 : nt_LW s w1) (hW2 : nt_LW s w2) (hap : nt_apW w1 w2) (hcs2 : cells + 2 ≤ 600000 ∧ slots + 163 ≤ 7302250) {i : Nat} (hi : i + 5 < L) (h : nt_Rel nr ln g1 g2) (kk : nt_LK p l e s m below meth c b i (nt_a w1 0) (nt_a w2 0) cells slots w2) : nt_LG p l e s m below meth c b cells slots 798 [(0, .ref b), (1, .ref (nt_a w1 0)), (2, .ref (nt_a w2 0)), (3, .int (nI i))] [] w1 g1 w2 g2 := by
  have hw1 : nt_isX w1 := ⟨nr, ln, hR1⟩
  have hcs : cells ≤ room_1.cells ∧ slots ≤ room_1.slots := ⟨by show cells ≤ 600000; omega, by show slots ≤ 7302250; omega⟩
  obtain ⟨v, ga, gb, e1, e2, h9⟩ := st_stranger h (xs (i + 1)) (xs (i + 2)) (xs (i + 3))
  refine nt_Laload X dL_law_798 rfl 1 rfl ?_
  refine nt_Lget X hL i 1 dL_law_799 dL_law_800 dL_law_801 dL_law_802 dL_law_803 rfl rfl rfl 0 3 rfl rfl (by omega) ?_
  refine nt_Lget X hL i 2 dL_law_804 dL_law_805 dL_law_806 dL_law_807 dL_law_808 rfl rfl rfl 0 3 rfl rfl (by omega) ?_
  refine nt_Lget X hL i 3 dL_law_809 dL_law_810 dL_law_811 dL_law_812 dL_law_813 rfl rfl rfl 0 3 rfl rfl (by omega) ?_
  refine nt_Lci X hW1 hap (As := [.int (xs (i + 1)), .int (xs (i + 2)), .int (xs (i + 3))]) (rest := []) (nt_lX hw1 (Nat.le_of_ble_eq_true rfl)) (nt_e0 hw1) rfl (cNt_stranger hw1 hR1 e1) wd_548 wd_545 wd_546 wd_547 wd_1 rfl hd_X8_stranger ⟨Nat.le_of_ble_eq_true rfl, Nat.le_of_ble_eq_true rfl⟩ hcs (Nat.le_of_ble_eq_true rfl) rfl dL_law_814 ?_
  refine nt_Laload X dL_law_817 rfl 2 rfl ?_
  refine nt_Lget X hL i 1 dL_law_818 dL_law_819 dL_law_820 dL_law_821 dL_law_822 rfl rfl rfl 0 3 rfl rfl (by omega) ?_
  refine nt_Lget X hL i 2 dL_law_823 dL_law_824 dL_law_825 dL_law_826 dL_law_827 rfl rfl rfl 0 3 rfl rfl (by omega) ?_
  refine nt_Lget X hL i 3 dL_law_828 dL_law_829 dL_law_830 dL_law_831 dL_law_832 rfl rfl rfl 0 3 rfl rfl (by omega) ?_
  refine nt_Lswap ?_
  refine nt_Lci X hW2 (nt_apW_sym hap) (As := [.int (xs (i + 1)), .int (xs (i + 2)), .int (xs (i + 3))]) (rest := [.int v]) (nt_lM hw2 (Nat.le_of_ble_eq_true rfl)) (nt_m0 hw2) rfl (cMo_stranger hw2 e2) wd_950 wd_947 wd_948 wd_949 wd_16 rfl hd_X9_stranger ⟨Nat.le_of_ble_eq_true rfl, Nat.le_of_ble_eq_true rfl⟩ hcs (Nat.le_of_ble_eq_true rfl) rfl dL_law_833 ?_
  refine nt_Lswap ?_
  refine nt_Licmpeq X 1194 dL_law_836 (by decide) ?_
  refine nt_Lwiden (Nat.le_add_right _ 2) (Nat.le_add_right _ 163) ?_
  exact kk w1 nr ln _ _ hR1 hW1 hap rfl h9
set_option maxRecDepth 100000 in
set_option maxHeartbeats 4000000 in
theorem law_21 (X : nt_LX p s m meth c b L xs) (hL : L ≤ 384) (hR1 : nt_isR w1 nr ln) (hw2 : nt_isM w2) (hW1 : nt_LW s w1) (hW2 : nt_LW s w2) (hap : nt_apW w1 w2) (hcs2 : cells + 2 ≤ 600000 ∧ slots + 163 ≤ 7302250) {i : Nat} (hi : i + 5 < L) (h : nt_Rel nr ln g1 g2) (kk : nt_LK p l e s m below meth c b i (nt_a w1 0) (nt_a w2 0) cells slots w2) : nt_LG p l e s m below meth c b cells slots 841 [(0, .ref b), (1, .ref (nt_a w1 0)), (2, .ref (nt_a w2 0)), (3, .int (nI i))] [] w1 g1 w2 g2 := by
  have hw1 : nt_isX w1 := ⟨nr, ln, hR1⟩
  have hcs : cells ≤ room_1.cells ∧ slots ≤ room_1.slots := ⟨by show cells ≤ 600000; omega, by show slots ≤ 7302250; omega⟩
  obtain ⟨v, e1, e2, h9⟩ := st_left h 
  refine nt_Laload X dL_law_841 rfl 1 rfl ?_
  refine nt_Lci X hW1 hap (As := []) (rest := []) (nt_lX hw1 (Nat.le_of_ble_eq_true rfl)) (nt_e0 hw1) rfl (cNt_left hw1 e1) wd_552 wd_549 wd_550 wd_551 wd_1 rfl hd_X8_left ⟨Nat.le_of_ble_eq_true rfl, Nat.le_of_ble_eq_true rfl⟩ hcs (Nat.le_of_ble_eq_true rfl) rfl dL_law_842 ?_
  refine nt_Laload X dL_law_845 rfl 2 rfl ?_
  refine nt_Lswap ?_
  refine nt_Lci X hW2 (nt_apW_sym hap) (As := []) (rest := [.int v]) (nt_lM hw2 (Nat.le_of_ble_eq_true rfl)) (nt_m0 hw2) rfl (cMo_left hw2 e2) wd_954 wd_951 wd_952 wd_953 wd_16 rfl hd_X9_left ⟨Nat.le_of_ble_eq_true rfl, Nat.le_of_ble_eq_true rfl⟩ hcs (Nat.le_of_ble_eq_true rfl) rfl dL_law_846 ?_
  refine nt_Lswap ?_
  refine nt_Licmpeq X 1194 dL_law_849 (by decide) ?_
  refine nt_Lwiden (Nat.le_add_right _ 2) (Nat.le_add_right _ 163) ?_
  exact kk w1 nr ln _ _ hR1 hW1 hap rfl h9
set_option maxRecDepth 100000 in
set_option maxHeartbeats 4000000 in
theorem law_22 (X : nt_LX p s m meth c b L xs) (hL : L ≤ 384) (hR1 : nt_isR w1 nr ln) (hw2 : nt_isM w2) (hW1 : nt_LW s w1) (hW2 : nt_LW s w2) (hap : nt_apW w1 w2) (hcs2 : cells + 2 ≤ 600000 ∧ slots + 163 ≤ 7302250) {i : Nat} (hi : i + 5 < L) (h : nt_Rel nr ln g1 g2) (kk : nt_LK p l e s m below meth c b i (nt_a w1 0) (nt_a w2 0) cells slots w2) : nt_LG p l e s m below meth c b cells slots 854 [(0, .ref b), (1, .ref (nt_a w1 0)), (2, .ref (nt_a w2 0)), (3, .int (nI i))] [] w1 g1 w2 g2 := by
  have hw1 : nt_isX w1 := ⟨nr, ln, hR1⟩
  have hcs : cells ≤ room_1.cells ∧ slots ≤ room_1.slots := ⟨by show cells ≤ 600000; omega, by show slots ≤ 7302250; omega⟩
  obtain ⟨v, ga, gb, e1, e2, h9⟩ := st_judge h (xs (i + 1))
  refine nt_Laload X dL_law_854 rfl 1 rfl ?_
  refine nt_Lget X hL i 1 dL_law_855 dL_law_856 dL_law_857 dL_law_858 dL_law_859 rfl rfl rfl 0 3 rfl rfl (by omega) ?_
  refine nt_Lci X hW1 hap (As := [.int (xs (i + 1))]) (rest := []) (nt_lX hw1 (Nat.le_of_ble_eq_true rfl)) (nt_e0 hw1) rfl (cNt_judge hw1 hR1 e1) wd_556 wd_553 wd_554 wd_555 wd_1 rfl hd_X8_judge ⟨Nat.le_of_ble_eq_true rfl, Nat.le_of_ble_eq_true rfl⟩ hcs (Nat.le_of_ble_eq_true rfl) rfl dL_law_860 ?_
  refine nt_Laload X dL_law_863 rfl 2 rfl ?_
  refine nt_Lget X hL i 1 dL_law_864 dL_law_865 dL_law_866 dL_law_867 dL_law_868 rfl rfl rfl 0 3 rfl rfl (by omega) ?_
  refine nt_Lswap ?_
  refine nt_Lci X hW2 (nt_apW_sym hap) (As := [.int (xs (i + 1))]) (rest := [.int v]) (nt_lM hw2 (Nat.le_of_ble_eq_true rfl)) (nt_m0 hw2) rfl (cMo_judge hw2 e2) wd_958 wd_955 wd_956 wd_957 wd_16 rfl hd_X9_judge ⟨Nat.le_of_ble_eq_true rfl, Nat.le_of_ble_eq_true rfl⟩ hcs (Nat.le_of_ble_eq_true rfl) rfl dL_law_869 ?_
  refine nt_Lswap ?_
  refine nt_Licmpeq X 1194 dL_law_872 (by decide) ?_
  refine nt_Lwiden (Nat.le_add_right _ 2) (Nat.le_add_right _ 163) ?_
  exact kk w1 nr ln _ _ hR1 hW1 hap rfl h9
set_option maxRecDepth 100000 in
set_option maxHeartbeats 4000000 in
theorem law_23 (X : nt_LX p s m meth c b L xs) (hL : L ≤ 384) (hR1 : nt_isR w1 nr ln) (hw2 : nt_isM w2) (hW1 : nt_LW s w1) (hW2 : nt_LW s w2) (hap : nt_apW w1 w2) (hcs2 : cells + 2 ≤ 600000 ∧ slots + 163 ≤ 7302250) {i : Nat} (hi : i + 5 < L) (h : nt_Rel nr ln g1 g2) (kk : nt_LK p l e s m below meth c b i (nt_a w1 0) (nt_a w2 0) cells slots w2) : nt_LG p l e s m below meth c b cells slots 877 [(0, .ref b), (1, .ref (nt_a w1 0)), (2, .ref (nt_a w2 0)), (3, .int (nI i))] [] w1 g1 w2 g2 := by
  have hw1 : nt_isX w1 := ⟨nr, ln, hR1⟩
  have hcs : cells ≤ room_1.cells ∧ slots ≤ room_1.slots := ⟨by show cells ≤ 600000; omega, by show slots ≤ 7302250; omega⟩
  obtain ⟨v, ga, gb, e1, e2, h9⟩ := st_drawn h (xs (i + 1)) (xs (i + 2))
  refine nt_Laload X dL_law_877 rfl 1 rfl ?_
  refine nt_Lget X hL i 1 dL_law_878 dL_law_879 dL_law_880 dL_law_881 dL_law_882 rfl rfl rfl 0 3 rfl rfl (by omega) ?_
  refine nt_Lget X hL i 2 dL_law_883 dL_law_884 dL_law_885 dL_law_886 dL_law_887 rfl rfl rfl 0 3 rfl rfl (by omega) ?_
  refine nt_Lci X hW1 hap (As := [.int (xs (i + 1)), .int (xs (i + 2))]) (rest := []) (nt_lX hw1 (Nat.le_of_ble_eq_true rfl)) (nt_e0 hw1) rfl (cNt_drawn hw1 hR1 e1) wd_566 wd_563 wd_564 wd_565 wd_1 rfl hd_X8_drawn ⟨Nat.le_of_ble_eq_true rfl, Nat.le_of_ble_eq_true rfl⟩ hcs (Nat.le_of_ble_eq_true rfl) rfl dL_law_888 ?_
  refine nt_Laload X dL_law_891 rfl 2 rfl ?_
  refine nt_Lget X hL i 1 dL_law_892 dL_law_893 dL_law_894 dL_law_895 dL_law_896 rfl rfl rfl 0 3 rfl rfl (by omega) ?_
  refine nt_Lget X hL i 2 dL_law_897 dL_law_898 dL_law_899 dL_law_900 dL_law_901 rfl rfl rfl 0 3 rfl rfl (by omega) ?_
  refine nt_Lswap ?_
  refine nt_Lci X hW2 (nt_apW_sym hap) (As := [.int (xs (i + 1)), .int (xs (i + 2))]) (rest := [.int v]) (nt_lM hw2 (Nat.le_of_ble_eq_true rfl)) (nt_m0 hw2) rfl (cMo_drawn hw2 e2) wd_965 wd_962 wd_963 wd_964 wd_16 rfl hd_X9_drawn ⟨Nat.le_of_ble_eq_true rfl, Nat.le_of_ble_eq_true rfl⟩ hcs (Nat.le_of_ble_eq_true rfl) rfl dL_law_902 ?_
  refine nt_Lswap ?_
  refine nt_Licmpeq X 1194 dL_law_905 (by decide) ?_
  refine nt_Lwiden (Nat.le_add_right _ 2) (Nat.le_add_right _ 163) ?_
  exact kk w1 nr ln _ _ hR1 hW1 hap rfl h9
set_option maxRecDepth 100000 in
set_option maxHeartbeats 4000000 in
theorem law_24 (X : nt_LX p s m meth c b L xs) (hL : L ≤ 384) (hR1 : nt_isR w1 nr ln) (hw2 : nt_isM w2) (hW1 : nt_LW s w1) (hW2 : nt_LW s w2) (hap : nt_apW w1 w2) (hcs2 : cells + 2 ≤ 600000 ∧ slots + 163 ≤ 7302250) {i : Nat} (hi : i + 5 < L) (h : nt_Rel nr ln g1 g2) (kk : nt_LK p l e s m below meth c b i (nt_a w1 0) (nt_a w2 0) cells slots w2) : nt_LG p l e s m below meth c b cells slots 910 [(0, .ref b), (1, .ref (nt_a w1 0)), (2, .ref (nt_a w2 0)), (3, .int (nI i))] [] w1 g1 w2 g2 := by
  have hw1 : nt_isX w1 := ⟨nr, ln, hR1⟩
  have hcs : cells ≤ room_1.cells ∧ slots ≤ room_1.slots := ⟨by show cells ≤ 600000; omega, by show slots ≤ 7302250; omega⟩
  obtain ⟨v, ga, gb, e1, e2, h9⟩ := st_image h 
  refine nt_Laload X dL_law_910 rfl 1 rfl ?_
  refine nt_Lci X hW1 hap (As := []) (rest := []) (nt_lX hw1 (Nat.le_of_ble_eq_true rfl)) (nt_e0 hw1) rfl (cNt_image hw1 e1) wd_571 wd_568 wd_569 wd_570 wd_1 rfl hd_X8_image ⟨Nat.le_of_ble_eq_true rfl, Nat.le_of_ble_eq_true rfl⟩ hcs (Nat.le_of_ble_eq_true rfl) rfl dL_law_911 ?_
  refine nt_Laload X dL_law_914 rfl 2 rfl ?_
  refine nt_Lswap ?_
  refine nt_Lci X hW2 (nt_apW_sym hap) (As := []) (rest := [.int v]) (nt_lM hw2 (Nat.le_of_ble_eq_true rfl)) (nt_m0 hw2) rfl (cMo_image hw2 e2) wd_972 wd_969 wd_970 wd_971 wd_16 rfl hd_X9_image ⟨Nat.le_of_ble_eq_true rfl, Nat.le_of_ble_eq_true rfl⟩ hcs (Nat.le_of_ble_eq_true rfl) rfl dL_law_915 ?_
  refine nt_Lswap ?_
  refine nt_Licmpeq X 1194 dL_law_918 (by decide) ?_
  refine nt_Lwiden (Nat.le_add_right _ 2) (Nat.le_add_right _ 163) ?_
  exact kk w1 nr ln _ _ hR1 hW1 hap rfl h9
set_option maxRecDepth 100000 in
set_option maxHeartbeats 4000000 in
theorem law_25 (X : nt_LX p s m meth c b L xs) (hL : L ≤ 384) (hR1 : nt_isR w1 nr ln) (hw2 : nt_isM w2) (hW1 : nt_LW s w1) (hW2 : nt_LW s w2) (hap : nt_apW w1 w2) (hcs2 : cells + 2 ≤ 600000 ∧ slots + 163 ≤ 7302250) {i : Nat} (hi : i + 5 < L) (h : nt_Rel nr ln g1 g2) (kk : nt_LK p l e s m below meth c b i (nt_a w1 0) (nt_a w2 0) cells slots w2) : nt_LG p l e s m below meth c b cells slots 923 [(0, .ref b), (1, .ref (nt_a w1 0)), (2, .ref (nt_a w2 0)), (3, .int (nI i))] [] w1 g1 w2 g2 := by
  have hw1 : nt_isX w1 := ⟨nr, ln, hR1⟩
  have hcs : cells ≤ room_1.cells ∧ slots ≤ room_1.slots := ⟨by show cells ≤ 600000; omega, by show slots ≤ 7302250; omega⟩
  obtain ⟨v, ga, gb, e1, e2, h9⟩ := st_back h 
  refine nt_Laload X dL_law_923 rfl 1 rfl ?_
  refine nt_Lci X hW1 hap (As := []) (rest := []) (nt_lX hw1 (Nat.le_of_ble_eq_true rfl)) (nt_e0 hw1) rfl (cNt_back hw1 e1) wd_575 wd_572 wd_573 wd_574 wd_1 rfl hd_X8_back ⟨Nat.le_of_ble_eq_true rfl, Nat.le_of_ble_eq_true rfl⟩ hcs (Nat.le_of_ble_eq_true rfl) rfl dL_law_924 ?_
  refine nt_Laload X dL_law_927 rfl 2 rfl ?_
  refine nt_Lswap ?_
  refine nt_Lci X hW2 (nt_apW_sym hap) (As := []) (rest := [.int v]) (nt_lM hw2 (Nat.le_of_ble_eq_true rfl)) (nt_m0 hw2) rfl (cMo_back hw2 e2) wd_976 wd_973 wd_974 wd_975 wd_16 rfl hd_X9_back ⟨Nat.le_of_ble_eq_true rfl, Nat.le_of_ble_eq_true rfl⟩ hcs (Nat.le_of_ble_eq_true rfl) rfl dL_law_928 ?_
  refine nt_Lswap ?_
  refine nt_Licmpeq X 1194 dL_law_931 (by decide) ?_
  refine nt_Lwiden (Nat.le_add_right _ 2) (Nat.le_add_right _ 163) ?_
  exact kk w1 nr ln _ _ hR1 hW1 hap rfl h9
set_option maxRecDepth 100000 in
set_option maxHeartbeats 4000000 in
theorem law_26 (X : nt_LX p s m meth c b L xs) (hL : L ≤ 384) (hR1 : nt_isR w1 nr ln) (hw2 : nt_isM w2) (hW1 : nt_LW s w1) (hW2 : nt_LW s w2) (hap : nt_apW w1 w2) (hcs2 : cells + 2 ≤ 600000 ∧ slots + 163 ≤ 7302250) {i : Nat} (hi : i + 5 < L) (h : nt_Rel nr ln g1 g2) (kk : nt_LK p l e s m below meth c b i (nt_a w1 0) (nt_a w2 0) cells slots w2) : nt_LG p l e s m below meth c b cells slots 936 [(0, .ref b), (1, .ref (nt_a w1 0)), (2, .ref (nt_a w2 0)), (3, .int (nI i))] [] w1 g1 w2 g2 := by
  have hw1 : nt_isX w1 := ⟨nr, ln, hR1⟩
  have hcs : cells ≤ room_1.cells ∧ slots ≤ room_1.slots := ⟨by show cells ≤ 600000; omega, by show slots ≤ 7302250; omega⟩
  obtain ⟨v, e1, e2, h9⟩ := st_count h (xs (i + 1))
  refine nt_Laload X dL_law_936 rfl 1 rfl ?_
  refine nt_Lget X hL i 1 dL_law_937 dL_law_938 dL_law_939 dL_law_940 dL_law_941 rfl rfl rfl 0 3 rfl rfl (by omega) ?_
  refine nt_Lci X hW1 hap (As := [.int (xs (i + 1))]) (rest := []) (nt_lX hw1 (Nat.le_of_ble_eq_true rfl)) (nt_e0 hw1) rfl (cNt_count hw1 e1) wd_579 wd_576 wd_577 wd_578 wd_1 rfl hd_X8_count ⟨Nat.le_of_ble_eq_true rfl, Nat.le_of_ble_eq_true rfl⟩ hcs (Nat.le_of_ble_eq_true rfl) rfl dL_law_942 ?_
  refine nt_Laload X dL_law_945 rfl 2 rfl ?_
  refine nt_Lget X hL i 1 dL_law_946 dL_law_947 dL_law_948 dL_law_949 dL_law_950 rfl rfl rfl 0 3 rfl rfl (by omega) ?_
  refine nt_Lswap ?_
  refine nt_Lci X hW2 (nt_apW_sym hap) (As := [.int (xs (i + 1))]) (rest := [.int v]) (nt_lM hw2 (Nat.le_of_ble_eq_true rfl)) (nt_m0 hw2) rfl (cMo_count hw2 e2) wd_980 wd_977 wd_978 wd_979 wd_16 rfl hd_X9_count ⟨Nat.le_of_ble_eq_true rfl, Nat.le_of_ble_eq_true rfl⟩ hcs (Nat.le_of_ble_eq_true rfl) rfl dL_law_951 ?_
  refine nt_Lswap ?_
  refine nt_Licmpeq X 1194 dL_law_954 (by decide) ?_
  refine nt_Lwiden (Nat.le_add_right _ 2) (Nat.le_add_right _ 163) ?_
  exact kk w1 nr ln _ _ hR1 hW1 hap rfl h9
set_option maxRecDepth 100000 in
set_option maxHeartbeats 4000000 in
theorem law_27 (X : nt_LX p s m meth c b L xs) (hL : L ≤ 384) (hR1 : nt_isR w1 nr ln) (hw2 : nt_isM w2) (hW1 : nt_LW s w1) (hW2 : nt_LW s w2) (hap : nt_apW w1 w2) (hcs2 : cells + 2 ≤ 600000 ∧ slots + 163 ≤ 7302250) {i : Nat} (hi : i + 5 < L) (h : nt_Rel nr ln g1 g2) (kk : nt_LK p l e s m below meth c b i (nt_a w1 0) (nt_a w2 0) cells slots w2) : nt_LG p l e s m below meth c b cells slots 959 [(0, .ref b), (1, .ref (nt_a w1 0)), (2, .ref (nt_a w2 0)), (3, .int (nI i))] [] w1 g1 w2 g2 := by
  have hw1 : nt_isX w1 := ⟨nr, ln, hR1⟩
  have hcs : cells ≤ room_1.cells ∧ slots ≤ room_1.slots := ⟨by show cells ≤ 600000; omega, by show slots ≤ 7302250; omega⟩
  obtain ⟨v, ga, gb, e1, e2, h9⟩ := st_sheet h (xs (i + 1)) (xs (i + 2)) (xs (i + 3))
  refine nt_Laload X dL_law_959 rfl 1 rfl ?_
  refine nt_Lget X hL i 1 dL_law_960 dL_law_961 dL_law_962 dL_law_963 dL_law_964 rfl rfl rfl 0 3 rfl rfl (by omega) ?_
  refine nt_Lget X hL i 2 dL_law_965 dL_law_966 dL_law_967 dL_law_968 dL_law_969 rfl rfl rfl 0 3 rfl rfl (by omega) ?_
  refine nt_Lget X hL i 3 dL_law_970 dL_law_971 dL_law_972 dL_law_973 dL_law_974 rfl rfl rfl 0 3 rfl rfl (by omega) ?_
  refine nt_Lci X hW1 hap (As := [.int (xs (i + 1)), .int (xs (i + 2)), .int (xs (i + 3))]) (rest := []) (nt_lX hw1 (Nat.le_of_ble_eq_true rfl)) (nt_e0 hw1) rfl (cNt_sheet hw1 e1) wd_583 wd_580 wd_581 wd_582 wd_1 rfl hd_X8_sheet ⟨Nat.le_of_ble_eq_true rfl, Nat.le_of_ble_eq_true rfl⟩ hcs (Nat.le_of_ble_eq_true rfl) rfl dL_law_975 ?_
  refine nt_Laload X dL_law_978 rfl 2 rfl ?_
  refine nt_Lget X hL i 1 dL_law_979 dL_law_980 dL_law_981 dL_law_982 dL_law_983 rfl rfl rfl 0 3 rfl rfl (by omega) ?_
  refine nt_Lget X hL i 2 dL_law_984 dL_law_985 dL_law_986 dL_law_987 dL_law_988 rfl rfl rfl 0 3 rfl rfl (by omega) ?_
  refine nt_Lget X hL i 3 dL_law_989 dL_law_990 dL_law_991 dL_law_992 dL_law_993 rfl rfl rfl 0 3 rfl rfl (by omega) ?_
  refine nt_Lswap ?_
  refine nt_Lci X hW2 (nt_apW_sym hap) (As := [.int (xs (i + 1)), .int (xs (i + 2)), .int (xs (i + 3))]) (rest := [.int v]) (nt_lM hw2 (Nat.le_of_ble_eq_true rfl)) (nt_m0 hw2) rfl (cMo_sheet hw2 e2) wd_984 wd_981 wd_982 wd_983 wd_16 rfl hd_X9_sheet ⟨Nat.le_of_ble_eq_true rfl, Nat.le_of_ble_eq_true rfl⟩ hcs (Nat.le_of_ble_eq_true rfl) rfl dL_law_994 ?_
  refine nt_Lswap ?_
  refine nt_Licmpeq X 1194 dL_law_997 (by decide) ?_
  refine nt_Lwiden (Nat.le_add_right _ 2) (Nat.le_add_right _ 163) ?_
  exact kk w1 nr ln _ _ hR1 hW1 hap rfl h9
set_option maxRecDepth 100000 in
set_option maxHeartbeats 4000000 in
theorem law_28 (X : nt_LX p s m meth c b L xs) (hL : L ≤ 384) (hR1 : nt_isR w1 nr ln) (hw2 : nt_isM w2) (hW1 : nt_LW s w1) (hW2 : nt_LW s w2) (hap : nt_apW w1 w2) (hcs2 : cells + 2 ≤ 600000 ∧ slots + 163 ≤ 7302250) {i : Nat} (hi : i + 5 < L) (h : nt_Rel nr ln g1 g2) (kk : nt_LK p l e s m below meth c b i (nt_a w1 0) (nt_a w2 0) cells slots w2) : nt_LG p l e s m below meth c b cells slots 1002 [(0, .ref b), (1, .ref (nt_a w1 0)), (2, .ref (nt_a w2 0)), (3, .int (nI i))] [] w1 g1 w2 g2 := by
  have hw1 : nt_isX w1 := ⟨nr, ln, hR1⟩
  have hcs : cells ≤ room_1.cells ∧ slots ≤ room_1.slots := ⟨by show cells ≤ 600000; omega, by show slots ≤ 7302250; omega⟩
  obtain ⟨v, ga, gb, e1, e2, h9⟩ := st_cell h (xs (i + 1)) (xs (i + 2)) (xs (i + 3))
  refine nt_Laload X dL_law_1002 rfl 1 rfl ?_
  refine nt_Lget X hL i 1 dL_law_1003 dL_law_1004 dL_law_1005 dL_law_1006 dL_law_1007 rfl rfl rfl 0 3 rfl rfl (by omega) ?_
  refine nt_Lget X hL i 2 dL_law_1008 dL_law_1009 dL_law_1010 dL_law_1011 dL_law_1012 rfl rfl rfl 0 3 rfl rfl (by omega) ?_
  refine nt_Lget X hL i 3 dL_law_1013 dL_law_1014 dL_law_1015 dL_law_1016 dL_law_1017 rfl rfl rfl 0 3 rfl rfl (by omega) ?_
  refine nt_Lci X hW1 hap (As := [.int (xs (i + 1)), .int (xs (i + 2)), .int (xs (i + 3))]) (rest := []) (nt_lX hw1 (Nat.le_of_ble_eq_true rfl)) (nt_e0 hw1) rfl (cNt_cell hw1 e1) wd_589 wd_586 wd_587 wd_588 wd_1 rfl hd_X8_cell ⟨Nat.le_of_ble_eq_true rfl, Nat.le_of_ble_eq_true rfl⟩ hcs (Nat.le_of_ble_eq_true rfl) rfl dL_law_1018 ?_
  refine nt_Laload X dL_law_1021 rfl 2 rfl ?_
  refine nt_Lget X hL i 1 dL_law_1022 dL_law_1023 dL_law_1024 dL_law_1025 dL_law_1026 rfl rfl rfl 0 3 rfl rfl (by omega) ?_
  refine nt_Lget X hL i 2 dL_law_1027 dL_law_1028 dL_law_1029 dL_law_1030 dL_law_1031 rfl rfl rfl 0 3 rfl rfl (by omega) ?_
  refine nt_Lget X hL i 3 dL_law_1032 dL_law_1033 dL_law_1034 dL_law_1035 dL_law_1036 rfl rfl rfl 0 3 rfl rfl (by omega) ?_
  refine nt_Lswap ?_
  refine nt_Lci X hW2 (nt_apW_sym hap) (As := [.int (xs (i + 1)), .int (xs (i + 2)), .int (xs (i + 3))]) (rest := [.int v]) (nt_lM hw2 (Nat.le_of_ble_eq_true rfl)) (nt_m0 hw2) rfl (cMo_cell hw2 e2) wd_989 wd_986 wd_987 wd_988 wd_16 rfl hd_X9_cell ⟨Nat.le_of_ble_eq_true rfl, Nat.le_of_ble_eq_true rfl⟩ hcs (Nat.le_of_ble_eq_true rfl) rfl dL_law_1037 ?_
  refine nt_Lswap ?_
  refine nt_Licmpeq X 1194 dL_law_1040 (by decide) ?_
  refine nt_Lwiden (Nat.le_add_right _ 2) (Nat.le_add_right _ 163) ?_
  exact kk w1 nr ln _ _ hR1 hW1 hap rfl h9
set_option maxRecDepth 100000 in
set_option maxHeartbeats 4000000 in
theorem law_29 (X : nt_LX p s m meth c b L xs) (hL : L ≤ 384) (hR1 : nt_isR w1 nr ln) (hw2 : nt_isM w2) (hW1 : nt_LW s w1) (hW2 : nt_LW s w2) (hap : nt_apW w1 w2) (hcs2 : cells + 2 ≤ 600000 ∧ slots + 163 ≤ 7302250) {i : Nat} (hi : i + 5 < L) (h : nt_Rel nr ln g1 g2) (kk : nt_LK p l e s m below meth c b i (nt_a w1 0) (nt_a w2 0) cells slots w2) : nt_LG p l e s m below meth c b cells slots 1045 [(0, .ref b), (1, .ref (nt_a w1 0)), (2, .ref (nt_a w2 0)), (3, .int (nI i))] [] w1 g1 w2 g2 := by
  have hw1 : nt_isX w1 := ⟨nr, ln, hR1⟩
  have hcs : cells ≤ room_1.cells ∧ slots ≤ room_1.slots := ⟨by show cells ≤ 600000; omega, by show slots ≤ 7302250; omega⟩
  obtain ⟨v, ga, gb, e1, e2, h9⟩ := st_copy h (xs (i + 1)) (xs (i + 2)) (xs (i + 3)) (xs (i + 4)) (xs (i + 5))
  refine nt_Laload X dL_law_1045 rfl 1 rfl ?_
  refine nt_Lget X hL i 1 dL_law_1046 dL_law_1047 dL_law_1048 dL_law_1049 dL_law_1050 rfl rfl rfl 0 3 rfl rfl (by omega) ?_
  refine nt_Lget X hL i 2 dL_law_1051 dL_law_1052 dL_law_1053 dL_law_1054 dL_law_1055 rfl rfl rfl 0 3 rfl rfl (by omega) ?_
  refine nt_Lget X hL i 3 dL_law_1056 dL_law_1057 dL_law_1058 dL_law_1059 dL_law_1060 rfl rfl rfl 0 3 rfl rfl (by omega) ?_
  refine nt_Lget X hL i 4 dL_law_1061 dL_law_1062 dL_law_1063 dL_law_1064 dL_law_1065 rfl rfl rfl 0 3 rfl rfl (by omega) ?_
  refine nt_Lget X hL i 5 dL_law_1066 dL_law_1067 dL_law_1068 dL_law_1069 dL_law_1070 rfl rfl rfl 0 3 rfl rfl (by omega) ?_
  refine nt_Lci X hW1 hap (As := [.int (xs (i + 1)), .int (xs (i + 2)), .int (xs (i + 3)), .int (xs (i + 4)), .int (xs (i + 5))]) (rest := []) (nt_lX hw1 (Nat.le_of_ble_eq_true rfl)) (nt_e0 hw1) rfl (cNt_copy hw1 e1) wd_597 wd_594 wd_595 wd_596 wd_1 rfl hd_X8_copy ⟨Nat.le_of_ble_eq_true rfl, Nat.le_of_ble_eq_true rfl⟩ hcs (Nat.le_of_ble_eq_true rfl) rfl dL_law_1071 ?_
  refine nt_Laload X dL_law_1074 rfl 2 rfl ?_
  refine nt_Lget X hL i 1 dL_law_1075 dL_law_1076 dL_law_1077 dL_law_1078 dL_law_1079 rfl rfl rfl 0 3 rfl rfl (by omega) ?_
  refine nt_Lget X hL i 2 dL_law_1080 dL_law_1081 dL_law_1082 dL_law_1083 dL_law_1084 rfl rfl rfl 0 3 rfl rfl (by omega) ?_
  refine nt_Lget X hL i 3 dL_law_1085 dL_law_1086 dL_law_1087 dL_law_1088 dL_law_1089 rfl rfl rfl 0 3 rfl rfl (by omega) ?_
  refine nt_Lget X hL i 4 dL_law_1090 dL_law_1091 dL_law_1092 dL_law_1093 dL_law_1094 rfl rfl rfl 0 3 rfl rfl (by omega) ?_
  refine nt_Lget X hL i 5 dL_law_1095 dL_law_1096 dL_law_1097 dL_law_1098 dL_law_1099 rfl rfl rfl 0 3 rfl rfl (by omega) ?_
  refine nt_Lswap ?_
  refine nt_Lci X hW2 (nt_apW_sym hap) (As := [.int (xs (i + 1)), .int (xs (i + 2)), .int (xs (i + 3)), .int (xs (i + 4)), .int (xs (i + 5))]) (rest := [.int v]) (nt_lM hw2 (Nat.le_of_ble_eq_true rfl)) (nt_m0 hw2) rfl (cMo_copy hw2 e2) wd_993 wd_990 wd_991 wd_992 wd_16 rfl hd_X9_copy ⟨Nat.le_of_ble_eq_true rfl, Nat.le_of_ble_eq_true rfl⟩ hcs (Nat.le_of_ble_eq_true rfl) rfl dL_law_1100 ?_
  refine nt_Lswap ?_
  refine nt_Licmpeq X 1194 dL_law_1103 (by decide) ?_
  refine nt_Lwiden (Nat.le_add_right _ 2) (Nat.le_add_right _ 163) ?_
  exact kk w1 nr ln _ _ hR1 hW1 hap rfl h9
set_option maxRecDepth 100000 in
set_option maxHeartbeats 4000000 in
theorem law_30 (X : nt_LX p s m meth c b L xs) (hL : L ≤ 384) (hR1 : nt_isR w1 nr ln) (hw2 : nt_isM w2) (hW1 : nt_LW s w1) (hW2 : nt_LW s w2) (hap : nt_apW w1 w2) (hcs2 : cells + 2 ≤ 600000 ∧ slots + 163 ≤ 7302250) {i : Nat} (hi : i + 5 < L) (h : nt_Rel nr ln g1 g2) (kk : nt_LK p l e s m below meth c b i (nt_a w1 0) (nt_a w2 0) cells slots w2) : nt_LG p l e s m below meth c b cells slots 1108 [(0, .ref b), (1, .ref (nt_a w1 0)), (2, .ref (nt_a w2 0)), (3, .int (nI i))] [] w1 g1 w2 g2 := by
  have hw1 : nt_isX w1 := ⟨nr, ln, hR1⟩
  have hcs : cells ≤ room_1.cells ∧ slots ≤ room_1.slots := ⟨by show cells ≤ 600000; omega, by show slots ≤ 7302250; omega⟩
  obtain ⟨v, ga, gb, e1, e2, h9⟩ := st_people h (xs (i + 1)) (xs (i + 2)) (xs (i + 3)) (xs (i + 4))
  refine nt_Laload X dL_law_1108 rfl 1 rfl ?_
  refine nt_Lget X hL i 1 dL_law_1109 dL_law_1110 dL_law_1111 dL_law_1112 dL_law_1113 rfl rfl rfl 0 3 rfl rfl (by omega) ?_
  refine nt_Lget X hL i 2 dL_law_1114 dL_law_1115 dL_law_1116 dL_law_1117 dL_law_1118 rfl rfl rfl 0 3 rfl rfl (by omega) ?_
  refine nt_Lget X hL i 3 dL_law_1119 dL_law_1120 dL_law_1121 dL_law_1122 dL_law_1123 rfl rfl rfl 0 3 rfl rfl (by omega) ?_
  refine nt_Lget X hL i 4 dL_law_1124 dL_law_1125 dL_law_1126 dL_law_1127 dL_law_1128 rfl rfl rfl 0 3 rfl rfl (by omega) ?_
  refine nt_Lci X hW1 hap (As := [.int (xs (i + 1)), .int (xs (i + 2)), .int (xs (i + 3)), .int (xs (i + 4))]) (rest := []) (nt_lX hw1 (Nat.le_of_ble_eq_true rfl)) (nt_e0 hw1) rfl (cNt_people hw1 e1) wd_606 wd_603 wd_604 wd_605 wd_1 rfl hd_X8_people ⟨Nat.le_of_ble_eq_true rfl, Nat.le_of_ble_eq_true rfl⟩ hcs (Nat.le_of_ble_eq_true rfl) rfl dL_law_1129 ?_
  refine nt_Laload X dL_law_1132 rfl 2 rfl ?_
  refine nt_Lget X hL i 1 dL_law_1133 dL_law_1134 dL_law_1135 dL_law_1136 dL_law_1137 rfl rfl rfl 0 3 rfl rfl (by omega) ?_
  refine nt_Lget X hL i 2 dL_law_1138 dL_law_1139 dL_law_1140 dL_law_1141 dL_law_1142 rfl rfl rfl 0 3 rfl rfl (by omega) ?_
  refine nt_Lget X hL i 3 dL_law_1143 dL_law_1144 dL_law_1145 dL_law_1146 dL_law_1147 rfl rfl rfl 0 3 rfl rfl (by omega) ?_
  refine nt_Lget X hL i 4 dL_law_1148 dL_law_1149 dL_law_1150 dL_law_1151 dL_law_1152 rfl rfl rfl 0 3 rfl rfl (by omega) ?_
  refine nt_Lswap ?_
  refine nt_Lci X hW2 (nt_apW_sym hap) (As := [.int (xs (i + 1)), .int (xs (i + 2)), .int (xs (i + 3)), .int (xs (i + 4))]) (rest := [.int v]) (nt_lM hw2 (Nat.le_of_ble_eq_true rfl)) (nt_m0 hw2) rfl (cMo_people hw2 e2) wd_997 wd_994 wd_995 wd_996 wd_16 rfl hd_X9_people ⟨Nat.le_of_ble_eq_true rfl, Nat.le_of_ble_eq_true rfl⟩ hcs (Nat.le_of_ble_eq_true rfl) rfl dL_law_1153 ?_
  refine nt_Lswap ?_
  refine nt_Licmpeq X 1194 dL_law_1156 (by decide) ?_
  refine nt_Lwiden (Nat.le_add_right _ 2) (Nat.le_add_right _ 163) ?_
  exact kk w1 nr ln _ _ hR1 hW1 hap rfl h9
set_option maxRecDepth 100000 in
set_option maxHeartbeats 4000000 in
theorem law_31 (X : nt_LX p s m meth c b L xs) (hL : L ≤ 384) (hR1 : nt_isR w1 nr ln) (hw2 : nt_isM w2) (hW1 : nt_LW s w1) (hW2 : nt_LW s w2) (hap : nt_apW w1 w2) (hcs2 : cells + 2 ≤ 600000 ∧ slots + 163 ≤ 7302250) {i : Nat} (hi : i + 5 < L) (h : nt_Rel nr ln g1 g2) (kk : nt_LK p l e s m below meth c b i (nt_a w1 0) (nt_a w2 0) cells slots w2) : nt_LG p l e s m below meth c b cells slots 1161 [(0, .ref b), (1, .ref (nt_a w1 0)), (2, .ref (nt_a w2 0)), (3, .int (nI i))] [] w1 g1 w2 g2 := by
  have hw1 : nt_isX w1 := ⟨nr, ln, hR1⟩
  have hcs : cells ≤ room_1.cells ∧ slots ≤ room_1.slots := ⟨by show cells ≤ 600000; omega, by show slots ≤ 7302250; omega⟩
  obtain ⟨v, e1, e2, h9⟩ := st_taken h (xs (i + 1)) (xs (i + 2))
  refine nt_Laload X dL_law_1161 rfl 1 rfl ?_
  refine nt_Lget X hL i 1 dL_law_1162 dL_law_1163 dL_law_1164 dL_law_1165 dL_law_1166 rfl rfl rfl 0 3 rfl rfl (by omega) ?_
  refine nt_Lget X hL i 2 dL_law_1167 dL_law_1168 dL_law_1169 dL_law_1170 dL_law_1171 rfl rfl rfl 0 3 rfl rfl (by omega) ?_
  refine nt_Lci X hW1 hap (As := [.int (xs (i + 1)), .int (xs (i + 2))]) (rest := []) (nt_lX hw1 (Nat.le_of_ble_eq_true rfl)) (nt_e0 hw1) rfl (cNt_taken hw1 e1) wd_610 wd_607 wd_608 wd_609 wd_1 rfl hd_X8_taken ⟨Nat.le_of_ble_eq_true rfl, Nat.le_of_ble_eq_true rfl⟩ hcs (Nat.le_of_ble_eq_true rfl) rfl dL_law_1172 ?_
  refine nt_Laload X dL_law_1175 rfl 2 rfl ?_
  refine nt_Lget X hL i 1 dL_law_1176 dL_law_1177 dL_law_1178 dL_law_1179 dL_law_1180 rfl rfl rfl 0 3 rfl rfl (by omega) ?_
  refine nt_Lget X hL i 2 dL_law_1181 dL_law_1182 dL_law_1183 dL_law_1184 dL_law_1185 rfl rfl rfl 0 3 rfl rfl (by omega) ?_
  refine nt_Lswap ?_
  refine nt_Lci X hW2 (nt_apW_sym hap) (As := [.int (xs (i + 1)), .int (xs (i + 2))]) (rest := [.int v]) (nt_lM hw2 (Nat.le_of_ble_eq_true rfl)) (nt_m0 hw2) rfl (cMo_taken hw2 e2) wd_1003 wd_1000 wd_1001 wd_1002 wd_16 rfl hd_X9_taken ⟨Nat.le_of_ble_eq_true rfl, Nat.le_of_ble_eq_true rfl⟩ hcs (Nat.le_of_ble_eq_true rfl) rfl dL_law_1186 ?_
  refine nt_Lswap ?_
  refine nt_Licmpeq X 1194 dL_law_1189 (by decide) ?_
  refine nt_Lwiden (Nat.le_add_right _ 2) (Nat.le_add_right _ 163) ?_
  exact kk w1 nr ln _ _ hR1 hW1 hap rfl h9
end LC
