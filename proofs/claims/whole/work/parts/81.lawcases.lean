section XCAS
variable {p : Program} {l : Launch} {e : Env} {s : State} {m : MethodId} {below : List Frame} {meth : Method} {c : Code} {b Ls : Nat} {xs : Nat → Int32} {G : GG}
theorem lc_customer {M : Mem} (C : LC p s m meth c b Ls xs G) (h : RR M (mB M)) {i : Nat} (hi : i + 6 ≤ Ls) (hL : Ls ≤ 3072) (kk : ∀ M', RR M' (mB M') → XJ shW p l e room_1 s m #[Value.ref b] below meth c 77 3974 G 4 (lw_Z below #[Value.ref b] s) 1094 (LL i) [] M') : XJ shW p l e room_1 s m #[Value.ref b] below meth c 77 3974 G 4 (lw_Z below #[Value.ref b] s) 176 (LL i) [] M := by
  obtain ⟨v, A', B', e1, e2, hR⟩ := customer_S h (xs (i + 1)) (xs (i + 2))
  refine X_aload_n C.1 d_law_176 rfl ?_
  refine X_arg C (kn := 1) hL (by omega) rfl d_law_177 d_law_178 d_law_179 d_law_180 d_law_181 ?_
  refine X_arg C (kn := 2) hL (by omega) rfl d_law_182 d_law_183 d_law_184 d_law_185 d_law_186 ?_
  refine X_lawA C (is := [xs (i + 1), xs (i + 2)]) (rest := []) (r := (some (.int v), A')) fkR_law_13 feX8_customer fvX8_customer rfl ⟨_, _, _, rfl, rfl, rfl⟩ (F8_customer_met (D := 120) C.2.1 (by decide) e1) rfl rfl rfl (Nat.le_of_ble_eq_true rfl) ⟨Nat.le_of_ble_eq_true rfl, Nat.le_of_ble_eq_true rfl, Nat.le_of_ble_eq_true rfl, Nat.le_of_ble_eq_true rfl⟩ d_law_187 ?_
  refine X_aload_n C.1 d_law_190 rfl ?_
  refine X_arg C (kn := 1) hL (by omega) rfl d_law_191 d_law_192 d_law_193 d_law_194 d_law_195 ?_
  refine X_arg C (kn := 2) hL (by omega) rfl d_law_196 d_law_197 d_law_198 d_law_199 d_law_200 ?_
  rw [← mB_jA A' M] at e2
  refine X_lawB C (is := [xs (i + 1), xs (i + 2)]) (rest := [.int v]) (r := (some (.int v), B')) fkR_law_17 feX9_customer fvX9_customer rfl ⟨_, _, _, rfl, rfl, rfl⟩ (F9_customer_met (D := 120) C.2.2.1 (by decide) e2) rfl rfl rfl (Nat.le_of_ble_eq_true rfl) ⟨Nat.le_of_ble_eq_true rfl, Nat.le_of_ble_eq_true rfl, Nat.le_of_ble_eq_true rfl, Nat.le_of_ble_eq_true rfl⟩ d_law_201 ?_
  exact X_icmp_eq C.1 d_law_204 (by decide) (fun _ => kk _ (RR_j hR)) (fun q => absurd rfl q)
theorem lc_thing {M : Mem} (C : LC p s m meth c b Ls xs G) (h : RR M (mB M)) {i : Nat} (hi : i + 6 ≤ Ls) (hL : Ls ≤ 3072) (kk : ∀ M', RR M' (mB M') → XJ shW p l e room_1 s m #[Value.ref b] below meth c 77 3974 G 4 (lw_Z below #[Value.ref b] s) 1094 (LL i) [] M') : XJ shW p l e room_1 s m #[Value.ref b] below meth c 77 3974 G 4 (lw_Z below #[Value.ref b] s) 209 (LL i) [] M := by
  obtain ⟨v, A', B', e1, e2, hR⟩ := thing_S h (xs (i + 1)) (xs (i + 2))
  refine X_aload_n C.1 d_law_209 rfl ?_
  refine X_arg C (kn := 1) hL (by omega) rfl d_law_210 d_law_211 d_law_212 d_law_213 d_law_214 ?_
  refine X_arg C (kn := 2) hL (by omega) rfl d_law_215 d_law_216 d_law_217 d_law_218 d_law_219 ?_
  refine X_lawA C (is := [xs (i + 1), xs (i + 2)]) (rest := []) (r := (some (.int v), A')) fkR_law_18 feX8_thing fvX8_thing rfl ⟨_, _, _, rfl, rfl, rfl⟩ (F8_thing_met (D := 120) C.2.1 (by decide) e1) rfl rfl rfl (Nat.le_of_ble_eq_true rfl) ⟨Nat.le_of_ble_eq_true rfl, Nat.le_of_ble_eq_true rfl, Nat.le_of_ble_eq_true rfl, Nat.le_of_ble_eq_true rfl⟩ d_law_220 ?_
  refine X_aload_n C.1 d_law_223 rfl ?_
  refine X_arg C (kn := 1) hL (by omega) rfl d_law_224 d_law_225 d_law_226 d_law_227 d_law_228 ?_
  refine X_arg C (kn := 2) hL (by omega) rfl d_law_229 d_law_230 d_law_231 d_law_232 d_law_233 ?_
  rw [← mB_jA A' M] at e2
  refine X_lawB C (is := [xs (i + 1), xs (i + 2)]) (rest := [.int v]) (r := (some (.int v), B')) fkR_law_21 feX9_thing fvX9_thing rfl ⟨_, _, _, rfl, rfl, rfl⟩ (F9_thing_met (D := 120) C.2.2.1 (by decide) e2) rfl rfl rfl (Nat.le_of_ble_eq_true rfl) ⟨Nat.le_of_ble_eq_true rfl, Nat.le_of_ble_eq_true rfl, Nat.le_of_ble_eq_true rfl, Nat.le_of_ble_eq_true rfl⟩ d_law_234 ?_
  exact X_icmp_eq C.1 d_law_237 (by decide) (fun _ => kk _ (RR_j hR)) (fun q => absurd rfl q)
theorem lc_set {M : Mem} (C : LC p s m meth c b Ls xs G) (h : RR M (mB M)) {i : Nat} (hi : i + 6 ≤ Ls) (hL : Ls ≤ 3072) (kk : ∀ M', RR M' (mB M') → XJ shW p l e room_1 s m #[Value.ref b] below meth c 77 3974 G 4 (lw_Z below #[Value.ref b] s) 1094 (LL i) [] M') : XJ shW p l e room_1 s m #[Value.ref b] below meth c 77 3974 G 4 (lw_Z below #[Value.ref b] s) 242 (LL i) [] M := by
  obtain ⟨v, A', B', e1, e2, hR⟩ := set_S h (xs (i + 1)) (xs (i + 2)) (xs (i + 3))
  refine X_aload_n C.1 d_law_242 rfl ?_
  refine X_arg C (kn := 1) hL (by omega) rfl d_law_243 d_law_244 d_law_245 d_law_246 d_law_247 ?_
  refine X_arg C (kn := 2) hL (by omega) rfl d_law_248 d_law_249 d_law_250 d_law_251 d_law_252 ?_
  refine X_arg C (kn := 3) hL (by omega) rfl d_law_253 d_law_254 d_law_255 d_law_256 d_law_257 ?_
  refine X_lawA C (is := [xs (i + 1), xs (i + 2), xs (i + 3)]) (rest := []) (r := (some (.int v), A')) fkR_law_22 feX8_set fvX8_set rfl ⟨_, _, _, rfl, rfl, rfl⟩ (F8_set_met (D := 120) C.2.1 (by decide) e1) rfl rfl rfl (Nat.le_of_ble_eq_true rfl) ⟨Nat.le_of_ble_eq_true rfl, Nat.le_of_ble_eq_true rfl, Nat.le_of_ble_eq_true rfl, Nat.le_of_ble_eq_true rfl⟩ d_law_258 ?_
  refine X_aload_n C.1 d_law_261 rfl ?_
  refine X_arg C (kn := 1) hL (by omega) rfl d_law_262 d_law_263 d_law_264 d_law_265 d_law_266 ?_
  refine X_arg C (kn := 2) hL (by omega) rfl d_law_267 d_law_268 d_law_269 d_law_270 d_law_271 ?_
  refine X_arg C (kn := 3) hL (by omega) rfl d_law_272 d_law_273 d_law_274 d_law_275 d_law_276 ?_
  rw [← mB_jA A' M] at e2
  refine X_lawB C (is := [xs (i + 1), xs (i + 2), xs (i + 3)]) (rest := [.int v]) (r := (some (.int v), B')) fkR_law_26 feX9_set fvX9_set rfl ⟨_, _, _, rfl, rfl, rfl⟩ (F9_set_met (D := 120) C.2.2.1 (by decide) e2) rfl rfl rfl (Nat.le_of_ble_eq_true rfl) ⟨Nat.le_of_ble_eq_true rfl, Nat.le_of_ble_eq_true rfl, Nat.le_of_ble_eq_true rfl, Nat.le_of_ble_eq_true rfl⟩ d_law_277 ?_
  exact X_icmp_eq C.1 d_law_280 (by decide) (fun _ => kk _ (RR_j hR)) (fun q => absurd rfl q)
theorem lc_told {M : Mem} (C : LC p s m meth c b Ls xs G) (h : RR M (mB M)) {i : Nat} (hi : i + 6 ≤ Ls) (hL : Ls ≤ 3072) (kk : ∀ M', RR M' (mB M') → XJ shW p l e room_1 s m #[Value.ref b] below meth c 77 3974 G 4 (lw_Z below #[Value.ref b] s) 1094 (LL i) [] M') : XJ shW p l e room_1 s m #[Value.ref b] below meth c 77 3974 G 4 (lw_Z below #[Value.ref b] s) 285 (LL i) [] M := by
  obtain ⟨v, A', B', e1, e2, hR⟩ := told_S h (xs (i + 1)) (xs (i + 2))
  refine X_aload_n C.1 d_law_285 rfl ?_
  refine X_arg C (kn := 1) hL (by omega) rfl d_law_286 d_law_287 d_law_288 d_law_289 d_law_290 ?_
  refine X_arg C (kn := 2) hL (by omega) rfl d_law_291 d_law_292 d_law_293 d_law_294 d_law_295 ?_
  refine X_lawA C (is := [xs (i + 1), xs (i + 2)]) (rest := []) (r := (some (.int v), A')) fkR_law_27 feX8_told fvX8_told rfl ⟨_, _, _, rfl, rfl, rfl⟩ (F8_told_met (D := 120) C.2.1 (by decide) e1) rfl rfl rfl (Nat.le_of_ble_eq_true rfl) ⟨Nat.le_of_ble_eq_true rfl, Nat.le_of_ble_eq_true rfl, Nat.le_of_ble_eq_true rfl, Nat.le_of_ble_eq_true rfl⟩ d_law_296 ?_
  refine X_aload_n C.1 d_law_299 rfl ?_
  refine X_arg C (kn := 1) hL (by omega) rfl d_law_300 d_law_301 d_law_302 d_law_303 d_law_304 ?_
  refine X_arg C (kn := 2) hL (by omega) rfl d_law_305 d_law_306 d_law_307 d_law_308 d_law_309 ?_
  rw [← mB_jA A' M] at e2
  refine X_lawB C (is := [xs (i + 1), xs (i + 2)]) (rest := [.int v]) (r := (some (.int v), B')) fkR_law_30 feX9_told fvX9_told rfl ⟨_, _, _, rfl, rfl, rfl⟩ (F9_told_met (D := 120) C.2.2.1 (by decide) e2) rfl rfl rfl (Nat.le_of_ble_eq_true rfl) ⟨Nat.le_of_ble_eq_true rfl, Nat.le_of_ble_eq_true rfl, Nat.le_of_ble_eq_true rfl, Nat.le_of_ble_eq_true rfl⟩ d_law_310 ?_
  exact X_icmp_eq C.1 d_law_313 (by decide) (fun _ => kk _ (RR_j hR)) (fun q => absurd rfl q)
theorem lc_serve {M : Mem} (C : LC p s m meth c b Ls xs G) (h : RR M (mB M)) {i : Nat} (hi : i + 6 ≤ Ls) (hL : Ls ≤ 3072) (kk : ∀ M', RR M' (mB M') → XJ shW p l e room_1 s m #[Value.ref b] below meth c 77 3974 G 4 (lw_Z below #[Value.ref b] s) 1094 (LL i) [] M') : XJ shW p l e room_1 s m #[Value.ref b] below meth c 77 3974 G 4 (lw_Z below #[Value.ref b] s) 318 (LL i) [] M := by
  obtain ⟨v, A', B', e1, e2, hR⟩ := serve_S h 
  refine X_aload_n C.1 d_law_318 rfl ?_
  refine X_lawA C (is := []) (rest := []) (r := (some (.int v), A')) fkR_law_31 feX8_serve fvX8_serve rfl ⟨_, _, _, rfl, rfl, rfl⟩ (F8_serve_met (D := 120) C.2.1 (by decide) e1) rfl rfl rfl (Nat.le_of_ble_eq_true rfl) ⟨Nat.le_of_ble_eq_true rfl, Nat.le_of_ble_eq_true rfl, Nat.le_of_ble_eq_true rfl, Nat.le_of_ble_eq_true rfl⟩ d_law_319 ?_
  refine X_aload_n C.1 d_law_322 rfl ?_
  rw [← mB_jA A' M] at e2
  refine X_lawB C (is := []) (rest := [.int v]) (r := (some (.int v), B')) fkR_law_35 feX9_serve fvX9_serve rfl ⟨_, _, _, rfl, rfl, rfl⟩ (F9_serve_met (D := 120) C.2.2.1 (by decide) e2) rfl rfl rfl (Nat.le_of_ble_eq_true rfl) ⟨Nat.le_of_ble_eq_true rfl, Nat.le_of_ble_eq_true rfl, Nat.le_of_ble_eq_true rfl, Nat.le_of_ble_eq_true rfl⟩ d_law_323 ?_
  exact X_icmp_eq C.1 d_law_326 (by decide) (fun _ => kk _ (RR_j hR)) (fun q => absurd rfl q)
theorem lc_feed {M : Mem} (C : LC p s m meth c b Ls xs G) (h : RR M (mB M)) {i : Nat} (hi : i + 6 ≤ Ls) (hL : Ls ≤ 3072) (kk : ∀ M', RR M' (mB M') → XJ shW p l e room_1 s m #[Value.ref b] below meth c 77 3974 G 4 (lw_Z below #[Value.ref b] s) 1094 (LL i) [] M') : XJ shW p l e room_1 s m #[Value.ref b] below meth c 77 3974 G 4 (lw_Z below #[Value.ref b] s) 331 (LL i) [] M := by
  obtain ⟨v, A', B', e1, e2, hR⟩ := feed_S h (xs (i + 1))
  refine X_aload_n C.1 d_law_331 rfl ?_
  refine X_arg C (kn := 1) hL (by omega) rfl d_law_332 d_law_333 d_law_334 d_law_335 d_law_336 ?_
  refine X_lawA C (is := [xs (i + 1)]) (rest := []) (r := (some (.int v), A')) fkR_law_36 feX8_feed fvX8_feed rfl ⟨_, _, _, rfl, rfl, rfl⟩ (F8_feed_met (D := 120) C.2.1 (by decide) e1) rfl rfl rfl (Nat.le_of_ble_eq_true rfl) ⟨Nat.le_of_ble_eq_true rfl, Nat.le_of_ble_eq_true rfl, Nat.le_of_ble_eq_true rfl, Nat.le_of_ble_eq_true rfl⟩ d_law_337 ?_
  refine X_aload_n C.1 d_law_340 rfl ?_
  refine X_arg C (kn := 1) hL (by omega) rfl d_law_341 d_law_342 d_law_343 d_law_344 d_law_345 ?_
  rw [← mB_jA A' M] at e2
  refine X_lawB C (is := [xs (i + 1)]) (rest := [.int v]) (r := (some (.int v), B')) fkR_law_40 feX9_feed fvX9_feed rfl ⟨_, _, _, rfl, rfl, rfl⟩ (F9_feed_met (D := 120) C.2.2.1 (by decide) e2) rfl rfl rfl (Nat.le_of_ble_eq_true rfl) ⟨Nat.le_of_ble_eq_true rfl, Nat.le_of_ble_eq_true rfl, Nat.le_of_ble_eq_true rfl, Nat.le_of_ble_eq_true rfl⟩ d_law_346 ?_
  exact X_icmp_eq C.1 d_law_349 (by decide) (fun _ => kk _ (RR_j hR)) (fun q => absurd rfl q)
theorem lc_text {M : Mem} (C : LC p s m meth c b Ls xs G) (h : RR M (mB M)) {i : Nat} (hi : i + 6 ≤ Ls) (hL : Ls ≤ 3072) (kk : ∀ M', RR M' (mB M') → XJ shW p l e room_1 s m #[Value.ref b] below meth c 77 3974 G 4 (lw_Z below #[Value.ref b] s) 1094 (LL i) [] M') : XJ shW p l e room_1 s m #[Value.ref b] below meth c 77 3974 G 4 (lw_Z below #[Value.ref b] s) 354 (LL i) [] M := by
  obtain ⟨v, A', B', e1, e2, hR⟩ := text_S h 
  refine X_aload_n C.1 d_law_354 rfl ?_
  refine X_lawA C (is := []) (rest := []) (r := (some (.int v), A')) fkR_law_41 feX8_text fvX8_text rfl ⟨_, _, _, rfl, rfl, rfl⟩ (F8_text_met (D := 120) C.2.1 (by decide) e1) rfl rfl rfl (Nat.le_of_ble_eq_true rfl) ⟨Nat.le_of_ble_eq_true rfl, Nat.le_of_ble_eq_true rfl, Nat.le_of_ble_eq_true rfl, Nat.le_of_ble_eq_true rfl⟩ d_law_355 ?_
  refine X_aload_n C.1 d_law_358 rfl ?_
  rw [← mB_jA A' M] at e2
  refine X_lawB C (is := []) (rest := [.int v]) (r := (some (.int v), B')) fkR_law_44 feX9_text fvX9_text rfl ⟨_, _, _, rfl, rfl, rfl⟩ (F9_text_met (D := 120) C.2.2.1 (by decide) e2) rfl rfl rfl (Nat.le_of_ble_eq_true rfl) ⟨Nat.le_of_ble_eq_true rfl, Nat.le_of_ble_eq_true rfl, Nat.le_of_ble_eq_true rfl, Nat.le_of_ble_eq_true rfl⟩ d_law_359 ?_
  exact X_icmp_eq C.1 d_law_362 (by decide) (fun _ => kk _ (RR_j hR)) (fun q => absurd rfl q)
theorem lc_force {M : Mem} (C : LC p s m meth c b Ls xs G) (h : RR M (mB M)) {i : Nat} (hi : i + 6 ≤ Ls) (hL : Ls ≤ 3072) (kk : ∀ M', RR M' (mB M') → XJ shW p l e room_1 s m #[Value.ref b] below meth c 77 3974 G 4 (lw_Z below #[Value.ref b] s) 1094 (LL i) [] M') : XJ shW p l e room_1 s m #[Value.ref b] below meth c 77 3974 G 4 (lw_Z below #[Value.ref b] s) 367 (LL i) [] M := by
  obtain ⟨v, A', B', e1, e2, hR⟩ := force_S h (xs (i + 1))
  refine X_aload_n C.1 d_law_367 rfl ?_
  refine X_arg C (kn := 1) hL (by omega) rfl d_law_368 d_law_369 d_law_370 d_law_371 d_law_372 ?_
  refine X_lawA C (is := [xs (i + 1)]) (rest := []) (r := (some (.int v), A')) fkR_law_45 feX8_force fvX8_force rfl ⟨_, _, _, rfl, rfl, rfl⟩ (F8_force_met (D := 120) C.2.1 (by decide) e1) rfl rfl rfl (Nat.le_of_ble_eq_true rfl) ⟨Nat.le_of_ble_eq_true rfl, Nat.le_of_ble_eq_true rfl, Nat.le_of_ble_eq_true rfl, Nat.le_of_ble_eq_true rfl⟩ d_law_373 ?_
  refine X_aload_n C.1 d_law_376 rfl ?_
  refine X_arg C (kn := 1) hL (by omega) rfl d_law_377 d_law_378 d_law_379 d_law_380 d_law_381 ?_
  rw [← mB_jA A' M] at e2
  refine X_lawB C (is := [xs (i + 1)]) (rest := [.int v]) (r := (some (.int v), B')) fkR_law_48 feX9_force fvX9_force rfl ⟨_, _, _, rfl, rfl, rfl⟩ (F9_force_met (D := 120) C.2.2.1 (by decide) e2) rfl rfl rfl (Nat.le_of_ble_eq_true rfl) ⟨Nat.le_of_ble_eq_true rfl, Nat.le_of_ble_eq_true rfl, Nat.le_of_ble_eq_true rfl, Nat.le_of_ble_eq_true rfl⟩ d_law_382 ?_
  exact X_icmp_eq C.1 d_law_385 (by decide) (fun _ => kk _ (RR_j hR)) (fun q => absurd rfl q)
theorem lc_turn {M : Mem} (C : LC p s m meth c b Ls xs G) (h : RR M (mB M)) {i : Nat} (hi : i + 6 ≤ Ls) (hL : Ls ≤ 3072) (kk : ∀ M', RR M' (mB M') → XJ shW p l e room_1 s m #[Value.ref b] below meth c 77 3974 G 4 (lw_Z below #[Value.ref b] s) 1094 (LL i) [] M') : XJ shW p l e room_1 s m #[Value.ref b] below meth c 77 3974 G 4 (lw_Z below #[Value.ref b] s) 390 (LL i) [] M := by
  obtain ⟨v, A', B', e1, e2, hR⟩ := turn_S h 
  refine X_aload_n C.1 d_law_390 rfl ?_
  refine X_lawA C (is := []) (rest := []) (r := (some (.int v), A')) fkR_law_49 feX8_turn fvX8_turn rfl ⟨_, _, _, rfl, rfl, rfl⟩ (F8_turn_met (D := 120) C.2.1 (by decide) e1) rfl rfl rfl (Nat.le_of_ble_eq_true rfl) ⟨Nat.le_of_ble_eq_true rfl, Nat.le_of_ble_eq_true rfl, Nat.le_of_ble_eq_true rfl, Nat.le_of_ble_eq_true rfl⟩ d_law_391 ?_
  refine X_aload_n C.1 d_law_394 rfl ?_
  rw [← mB_jA A' M] at e2
  refine X_lawB C (is := []) (rest := [.int v]) (r := (some (.int v), B')) fkR_law_52 feX9_turn fvX9_turn rfl ⟨_, _, _, rfl, rfl, rfl⟩ (F9_turn_met (D := 120) C.2.2.1 (by decide) e2) rfl rfl rfl (Nat.le_of_ble_eq_true rfl) ⟨Nat.le_of_ble_eq_true rfl, Nat.le_of_ble_eq_true rfl, Nat.le_of_ble_eq_true rfl, Nat.le_of_ble_eq_true rfl⟩ d_law_395 ?_
  exact X_icmp_eq C.1 d_law_398 (by decide) (fun _ => kk _ (RR_j hR)) (fun q => absurd rfl q)
theorem lc_errand {M : Mem} (C : LC p s m meth c b Ls xs G) (h : RR M (mB M)) {i : Nat} (hi : i + 6 ≤ Ls) (hL : Ls ≤ 3072) (kk : ∀ M', RR M' (mB M') → XJ shW p l e room_1 s m #[Value.ref b] below meth c 77 3974 G 4 (lw_Z below #[Value.ref b] s) 1094 (LL i) [] M') : XJ shW p l e room_1 s m #[Value.ref b] below meth c 77 3974 G 4 (lw_Z below #[Value.ref b] s) 403 (LL i) [] M := by
  obtain ⟨v, A', B', e1, e2, hR⟩ := errand_S h (xs (i + 1)) (xs (i + 2))
  refine X_aload_n C.1 d_law_403 rfl ?_
  refine X_arg C (kn := 1) hL (by omega) rfl d_law_404 d_law_405 d_law_406 d_law_407 d_law_408 ?_
  refine X_arg C (kn := 2) hL (by omega) rfl d_law_409 d_law_410 d_law_411 d_law_412 d_law_413 ?_
  refine X_lawA C (is := [xs (i + 1), xs (i + 2)]) (rest := []) (r := (some (.int v), A')) fkR_law_53 feX8_errand fvX8_errand rfl ⟨_, _, _, rfl, rfl, rfl⟩ (F8_errand_met (D := 120) C.2.1 (by decide) e1) rfl rfl rfl (Nat.le_of_ble_eq_true rfl) ⟨Nat.le_of_ble_eq_true rfl, Nat.le_of_ble_eq_true rfl, Nat.le_of_ble_eq_true rfl, Nat.le_of_ble_eq_true rfl⟩ d_law_414 ?_
  refine X_aload_n C.1 d_law_417 rfl ?_
  refine X_arg C (kn := 1) hL (by omega) rfl d_law_418 d_law_419 d_law_420 d_law_421 d_law_422 ?_
  refine X_arg C (kn := 2) hL (by omega) rfl d_law_423 d_law_424 d_law_425 d_law_426 d_law_427 ?_
  rw [← mB_jA A' M] at e2
  refine X_lawB C (is := [xs (i + 1), xs (i + 2)]) (rest := [.int v]) (r := (some (.int v), B')) fkR_law_56 feX9_errand fvX9_errand rfl ⟨_, _, _, rfl, rfl, rfl⟩ (F9_errand_met (D := 120) C.2.2.1 (by decide) e2) rfl rfl rfl (Nat.le_of_ble_eq_true rfl) ⟨Nat.le_of_ble_eq_true rfl, Nat.le_of_ble_eq_true rfl, Nat.le_of_ble_eq_true rfl, Nat.le_of_ble_eq_true rfl⟩ d_law_428 ?_
  exact X_icmp_eq C.1 d_law_431 (by decide) (fun _ => kk _ (RR_j hR)) (fun q => absurd rfl q)
theorem lc_nearest {M : Mem} (C : LC p s m meth c b Ls xs G) (h : RR M (mB M)) {i : Nat} (hi : i + 6 ≤ Ls) (hL : Ls ≤ 3072) (kk : ∀ M', RR M' (mB M') → XJ shW p l e room_1 s m #[Value.ref b] below meth c 77 3974 G 4 (lw_Z below #[Value.ref b] s) 1094 (LL i) [] M') : XJ shW p l e room_1 s m #[Value.ref b] below meth c 77 3974 G 4 (lw_Z below #[Value.ref b] s) 436 (LL i) [] M := by
  obtain ⟨v, A', B', e1, e2, hR⟩ := nearest_S h (xs (i + 1))
  refine X_aload_n C.1 d_law_436 rfl ?_
  refine X_arg C (kn := 1) hL (by omega) rfl d_law_437 d_law_438 d_law_439 d_law_440 d_law_441 ?_
  refine X_lawA C (is := [xs (i + 1)]) (rest := []) (r := (some (.int v), A')) fkR_law_57 feX8_nearest fvX8_nearest rfl ⟨_, _, _, rfl, rfl, rfl⟩ (F8_nearest_met (D := 120) C.2.1 (by decide) e1) rfl rfl rfl (Nat.le_of_ble_eq_true rfl) ⟨Nat.le_of_ble_eq_true rfl, Nat.le_of_ble_eq_true rfl, Nat.le_of_ble_eq_true rfl, Nat.le_of_ble_eq_true rfl⟩ d_law_442 ?_
  refine X_aload_n C.1 d_law_445 rfl ?_
  refine X_arg C (kn := 1) hL (by omega) rfl d_law_446 d_law_447 d_law_448 d_law_449 d_law_450 ?_
  rw [← mB_jA A' M] at e2
  refine X_lawB C (is := [xs (i + 1)]) (rest := [.int v]) (r := (some (.int v), B')) fkR_law_60 feX9_nearest fvX9_nearest rfl ⟨_, _, _, rfl, rfl, rfl⟩ (F9_nearest_met (D := 120) C.2.2.1 (by decide) e2) rfl rfl rfl (Nat.le_of_ble_eq_true rfl) ⟨Nat.le_of_ble_eq_true rfl, Nat.le_of_ble_eq_true rfl, Nat.le_of_ble_eq_true rfl, Nat.le_of_ble_eq_true rfl⟩ d_law_451 ?_
  exact X_icmp_eq C.1 d_law_454 (by decide) (fun _ => kk _ (RR_j hR)) (fun q => absurd rfl q)
theorem lc_best {M : Mem} (C : LC p s m meth c b Ls xs G) (h : RR M (mB M)) {i : Nat} (hi : i + 6 ≤ Ls) (hL : Ls ≤ 3072) (kk : ∀ M', RR M' (mB M') → XJ shW p l e room_1 s m #[Value.ref b] below meth c 77 3974 G 4 (lw_Z below #[Value.ref b] s) 1094 (LL i) [] M') : XJ shW p l e room_1 s m #[Value.ref b] below meth c 77 3974 G 4 (lw_Z below #[Value.ref b] s) 459 (LL i) [] M := by
  obtain ⟨v, A', B', e1, e2, hR⟩ := best_S h (xs (i + 1))
  refine X_aload_n C.1 d_law_459 rfl ?_
  refine X_arg C (kn := 1) hL (by omega) rfl d_law_460 d_law_461 d_law_462 d_law_463 d_law_464 ?_
  refine X_lawA C (is := [xs (i + 1)]) (rest := []) (r := (some (.int v), A')) fkR_law_61 feX8_best fvX8_best rfl ⟨_, _, _, rfl, rfl, rfl⟩ (F8_best_met (D := 120) C.2.1 (by decide) e1) rfl rfl rfl (Nat.le_of_ble_eq_true rfl) ⟨Nat.le_of_ble_eq_true rfl, Nat.le_of_ble_eq_true rfl, Nat.le_of_ble_eq_true rfl, Nat.le_of_ble_eq_true rfl⟩ d_law_465 ?_
  refine X_aload_n C.1 d_law_468 rfl ?_
  refine X_arg C (kn := 1) hL (by omega) rfl d_law_469 d_law_470 d_law_471 d_law_472 d_law_473 ?_
  rw [← mB_jA A' M] at e2
  refine X_lawB C (is := [xs (i + 1)]) (rest := [.int v]) (r := (some (.int v), B')) fkR_law_64 feX9_best fvX9_best rfl ⟨_, _, _, rfl, rfl, rfl⟩ (F9_best_met (D := 120) C.2.2.1 (by decide) e2) rfl rfl rfl (Nat.le_of_ble_eq_true rfl) ⟨Nat.le_of_ble_eq_true rfl, Nat.le_of_ble_eq_true rfl, Nat.le_of_ble_eq_true rfl, Nat.le_of_ble_eq_true rfl⟩ d_law_474 ?_
  exact X_icmp_eq C.1 d_law_477 (by decide) (fun _ => kk _ (RR_j hR)) (fun q => absurd rfl q)
theorem lc_latest {M : Mem} (C : LC p s m meth c b Ls xs G) (h : RR M (mB M)) {i : Nat} (hi : i + 6 ≤ Ls) (hL : Ls ≤ 3072) (kk : ∀ M', RR M' (mB M') → XJ shW p l e room_1 s m #[Value.ref b] below meth c 77 3974 G 4 (lw_Z below #[Value.ref b] s) 1094 (LL i) [] M') : XJ shW p l e room_1 s m #[Value.ref b] below meth c 77 3974 G 4 (lw_Z below #[Value.ref b] s) 482 (LL i) [] M := by
  obtain ⟨v, A', B', e1, e2, hR⟩ := latest_S h (xs (i + 1)) (xs (i + 2))
  refine X_aload_n C.1 d_law_482 rfl ?_
  refine X_arg C (kn := 1) hL (by omega) rfl d_law_483 d_law_484 d_law_485 d_law_486 d_law_487 ?_
  refine X_arg C (kn := 2) hL (by omega) rfl d_law_488 d_law_489 d_law_490 d_law_491 d_law_492 ?_
  refine X_lawA C (is := [xs (i + 1), xs (i + 2)]) (rest := []) (r := (some (.int v), A')) fkR_law_65 feX8_latest fvX8_latest rfl ⟨_, _, _, rfl, rfl, rfl⟩ (F8_latest_met (D := 120) C.2.1 (by decide) e1) rfl rfl rfl (Nat.le_of_ble_eq_true rfl) ⟨Nat.le_of_ble_eq_true rfl, Nat.le_of_ble_eq_true rfl, Nat.le_of_ble_eq_true rfl, Nat.le_of_ble_eq_true rfl⟩ d_law_493 ?_
  refine X_aload_n C.1 d_law_496 rfl ?_
  refine X_arg C (kn := 1) hL (by omega) rfl d_law_497 d_law_498 d_law_499 d_law_500 d_law_501 ?_
  refine X_arg C (kn := 2) hL (by omega) rfl d_law_502 d_law_503 d_law_504 d_law_505 d_law_506 ?_
  rw [← mB_jA A' M] at e2
  refine X_lawB C (is := [xs (i + 1), xs (i + 2)]) (rest := [.int v]) (r := (some (.int v), B')) fkR_law_68 feX9_latest fvX9_latest rfl ⟨_, _, _, rfl, rfl, rfl⟩ (F9_latest_met (D := 120) C.2.2.1 (by decide) e2) rfl rfl rfl (Nat.le_of_ble_eq_true rfl) ⟨Nat.le_of_ble_eq_true rfl, Nat.le_of_ble_eq_true rfl, Nat.le_of_ble_eq_true rfl, Nat.le_of_ble_eq_true rfl⟩ d_law_507 ?_
  exact X_icmp_eq C.1 d_law_510 (by decide) (fun _ => kk _ (RR_j hR)) (fun q => absurd rfl q)
theorem lc_leave {M : Mem} (C : LC p s m meth c b Ls xs G) (h : RR M (mB M)) {i : Nat} (hi : i + 6 ≤ Ls) (hL : Ls ≤ 3072) (kk : ∀ M', RR M' (mB M') → XJ shW p l e room_1 s m #[Value.ref b] below meth c 77 3974 G 4 (lw_Z below #[Value.ref b] s) 1094 (LL i) [] M') : XJ shW p l e room_1 s m #[Value.ref b] below meth c 77 3974 G 4 (lw_Z below #[Value.ref b] s) 515 (LL i) [] M := by
  obtain ⟨v, A', B', e1, e2, hR⟩ := leave_S h 
  refine X_aload_n C.1 d_law_515 rfl ?_
  refine X_lawA C (is := []) (rest := []) (r := (some (.int v), A')) fkR_law_69 feX8_leave fvX8_leave rfl ⟨_, _, _, rfl, rfl, rfl⟩ (F8_leave_met (D := 120) C.2.1 (by decide) e1) rfl rfl rfl (Nat.le_of_ble_eq_true rfl) ⟨Nat.le_of_ble_eq_true rfl, Nat.le_of_ble_eq_true rfl, Nat.le_of_ble_eq_true rfl, Nat.le_of_ble_eq_true rfl⟩ d_law_516 ?_
  refine X_aload_n C.1 d_law_519 rfl ?_
  rw [← mB_jA A' M] at e2
  refine X_lawB C (is := []) (rest := [.int v]) (r := (some (.int v), B')) fkR_law_72 feX9_leave fvX9_leave rfl ⟨_, _, _, rfl, rfl, rfl⟩ (F9_leave_met (D := 120) C.2.2.1 (by decide) e2) rfl rfl rfl (Nat.le_of_ble_eq_true rfl) ⟨Nat.le_of_ble_eq_true rfl, Nat.le_of_ble_eq_true rfl, Nat.le_of_ble_eq_true rfl, Nat.le_of_ble_eq_true rfl⟩ d_law_520 ?_
  exact X_icmp_eq C.1 d_law_523 (by decide) (fun _ => kk _ (RR_j hR)) (fun q => absurd rfl q)
theorem lc_more {M : Mem} (C : LC p s m meth c b Ls xs G) (h : RR M (mB M)) {i : Nat} (hi : i + 6 ≤ Ls) (hL : Ls ≤ 3072) (kk : ∀ M', RR M' (mB M') → XJ shW p l e room_1 s m #[Value.ref b] below meth c 77 3974 G 4 (lw_Z below #[Value.ref b] s) 1094 (LL i) [] M') : XJ shW p l e room_1 s m #[Value.ref b] below meth c 77 3974 G 4 (lw_Z below #[Value.ref b] s) 528 (LL i) [] M := by
  obtain ⟨v, A', B', e1, e2, hR⟩ := more_S h (xs (i + 1))
  refine X_aload_n C.1 d_law_528 rfl ?_
  refine X_arg C (kn := 1) hL (by omega) rfl d_law_529 d_law_530 d_law_531 d_law_532 d_law_533 ?_
  refine X_lawA C (is := [xs (i + 1)]) (rest := []) (r := (some (.int v), A')) fkR_law_73 feX8_more fvX8_more rfl ⟨_, _, _, rfl, rfl, rfl⟩ (F8_more_met (D := 120) C.2.1 (by decide) e1) rfl rfl rfl (Nat.le_of_ble_eq_true rfl) ⟨Nat.le_of_ble_eq_true rfl, Nat.le_of_ble_eq_true rfl, Nat.le_of_ble_eq_true rfl, Nat.le_of_ble_eq_true rfl⟩ d_law_534 ?_
  refine X_aload_n C.1 d_law_537 rfl ?_
  refine X_arg C (kn := 1) hL (by omega) rfl d_law_538 d_law_539 d_law_540 d_law_541 d_law_542 ?_
  rw [← mB_jA A' M] at e2
  refine X_lawB C (is := [xs (i + 1)]) (rest := [.int v]) (r := (some (.int v), B')) fkR_law_76 feX9_more fvX9_more rfl ⟨_, _, _, rfl, rfl, rfl⟩ (F9_more_met (D := 120) C.2.2.1 (by decide) e2) rfl rfl rfl (Nat.le_of_ble_eq_true rfl) ⟨Nat.le_of_ble_eq_true rfl, Nat.le_of_ble_eq_true rfl, Nat.le_of_ble_eq_true rfl, Nat.le_of_ble_eq_true rfl⟩ d_law_543 ?_
  exact X_icmp_eq C.1 d_law_546 (by decide) (fun _ => kk _ (RR_j hR)) (fun q => absurd rfl q)
theorem lc_stand {M : Mem} (C : LC p s m meth c b Ls xs G) (h : RR M (mB M)) {i : Nat} (hi : i + 6 ≤ Ls) (hL : Ls ≤ 3072) (kk : ∀ M', RR M' (mB M') → XJ shW p l e room_1 s m #[Value.ref b] below meth c 77 3974 G 4 (lw_Z below #[Value.ref b] s) 1094 (LL i) [] M') : XJ shW p l e room_1 s m #[Value.ref b] below meth c 77 3974 G 4 (lw_Z below #[Value.ref b] s) 551 (LL i) [] M := by
  obtain ⟨v, A', B', e1, e2, hR⟩ := stand_S h (xs (i + 1))
  refine X_aload_n C.1 d_law_551 rfl ?_
  refine X_arg C (kn := 1) hL (by omega) rfl d_law_552 d_law_553 d_law_554 d_law_555 d_law_556 ?_
  refine X_lawA C (is := [xs (i + 1)]) (rest := []) (r := (some (.int v), A')) fkR_law_77 feX8_stand fvX8_stand rfl ⟨_, _, _, rfl, rfl, rfl⟩ (F8_stand_met (D := 120) C.2.1 (by decide) e1) rfl rfl rfl (Nat.le_of_ble_eq_true rfl) ⟨Nat.le_of_ble_eq_true rfl, Nat.le_of_ble_eq_true rfl, Nat.le_of_ble_eq_true rfl, Nat.le_of_ble_eq_true rfl⟩ d_law_557 ?_
  refine X_aload_n C.1 d_law_560 rfl ?_
  refine X_arg C (kn := 1) hL (by omega) rfl d_law_561 d_law_562 d_law_563 d_law_564 d_law_565 ?_
  rw [← mB_jA A' M] at e2
  refine X_lawB C (is := [xs (i + 1)]) (rest := [.int v]) (r := (some (.int v), B')) fkR_law_80 feX9_stand fvX9_stand rfl ⟨_, _, _, rfl, rfl, rfl⟩ (F9_stand_met (D := 120) C.2.2.1 (by decide) e2) rfl rfl rfl (Nat.le_of_ble_eq_true rfl) ⟨Nat.le_of_ble_eq_true rfl, Nat.le_of_ble_eq_true rfl, Nat.le_of_ble_eq_true rfl, Nat.le_of_ble_eq_true rfl⟩ d_law_566 ?_
  exact X_icmp_eq C.1 d_law_569 (by decide) (fun _ => kk _ (RR_j hR)) (fun q => absurd rfl q)
theorem lc_change {M : Mem} (C : LC p s m meth c b Ls xs G) (h : RR M (mB M)) {i : Nat} (hi : i + 6 ≤ Ls) (hL : Ls ≤ 3072) (kk : ∀ M', RR M' (mB M') → XJ shW p l e room_1 s m #[Value.ref b] below meth c 77 3974 G 4 (lw_Z below #[Value.ref b] s) 1094 (LL i) [] M') : XJ shW p l e room_1 s m #[Value.ref b] below meth c 77 3974 G 4 (lw_Z below #[Value.ref b] s) 574 (LL i) [] M := by
  obtain ⟨v, A', B', e1, e2, hR⟩ := change_S h (xs (i + 1))
  refine X_aload_n C.1 d_law_574 rfl ?_
  refine X_arg C (kn := 1) hL (by omega) rfl d_law_575 d_law_576 d_law_577 d_law_578 d_law_579 ?_
  refine X_lawA C (is := [xs (i + 1)]) (rest := []) (r := (some (.int v), A')) fkR_law_81 feX8_change fvX8_change rfl ⟨_, _, _, rfl, rfl, rfl⟩ (F8_change_met (D := 120) C.2.1 (by decide) e1) rfl rfl rfl (Nat.le_of_ble_eq_true rfl) ⟨Nat.le_of_ble_eq_true rfl, Nat.le_of_ble_eq_true rfl, Nat.le_of_ble_eq_true rfl, Nat.le_of_ble_eq_true rfl⟩ d_law_580 ?_
  refine X_aload_n C.1 d_law_583 rfl ?_
  refine X_arg C (kn := 1) hL (by omega) rfl d_law_584 d_law_585 d_law_586 d_law_587 d_law_588 ?_
  rw [← mB_jA A' M] at e2
  refine X_lawB C (is := [xs (i + 1)]) (rest := [.int v]) (r := (some (.int v), B')) fkR_law_84 feX9_change fvX9_change rfl ⟨_, _, _, rfl, rfl, rfl⟩ (F9_change_met (D := 120) C.2.2.1 (by decide) e2) rfl rfl rfl (Nat.le_of_ble_eq_true rfl) ⟨Nat.le_of_ble_eq_true rfl, Nat.le_of_ble_eq_true rfl, Nat.le_of_ble_eq_true rfl, Nat.le_of_ble_eq_true rfl⟩ d_law_589 ?_
  exact X_icmp_eq C.1 d_law_592 (by decide) (fun _ => kk _ (RR_j hR)) (fun q => absurd rfl q)
theorem lc_lines {M : Mem} (C : LC p s m meth c b Ls xs G) (h : RR M (mB M)) {i : Nat} (hi : i + 6 ≤ Ls) (hL : Ls ≤ 3072) (kk : ∀ M', RR M' (mB M') → XJ shW p l e room_1 s m #[Value.ref b] below meth c 77 3974 G 4 (lw_Z below #[Value.ref b] s) 1094 (LL i) [] M') : XJ shW p l e room_1 s m #[Value.ref b] below meth c 77 3974 G 4 (lw_Z below #[Value.ref b] s) 597 (LL i) [] M := by
  obtain ⟨v, A', B', e1, e2, hR⟩ := lines_S h (xs (i + 1))
  refine X_aload_n C.1 d_law_597 rfl ?_
  refine X_arg C (kn := 1) hL (by omega) rfl d_law_598 d_law_599 d_law_600 d_law_601 d_law_602 ?_
  refine X_lawA C (is := [xs (i + 1)]) (rest := []) (r := (some (.int v), A')) fkR_law_85 feX8_lines fvX8_lines rfl ⟨_, _, _, rfl, rfl, rfl⟩ (F8_lines_met (D := 120) C.2.1 (by decide) e1) rfl rfl rfl (Nat.le_of_ble_eq_true rfl) ⟨Nat.le_of_ble_eq_true rfl, Nat.le_of_ble_eq_true rfl, Nat.le_of_ble_eq_true rfl, Nat.le_of_ble_eq_true rfl⟩ d_law_603 ?_
  refine X_aload_n C.1 d_law_606 rfl ?_
  refine X_arg C (kn := 1) hL (by omega) rfl d_law_607 d_law_608 d_law_609 d_law_610 d_law_611 ?_
  rw [← mB_jA A' M] at e2
  refine X_lawB C (is := [xs (i + 1)]) (rest := [.int v]) (r := (some (.int v), B')) fkR_law_88 feX9_lines fvX9_lines rfl ⟨_, _, _, rfl, rfl, rfl⟩ (F9_lines_met (D := 120) C.2.2.1 (by decide) e2) rfl rfl rfl (Nat.le_of_ble_eq_true rfl) ⟨Nat.le_of_ble_eq_true rfl, Nat.le_of_ble_eq_true rfl, Nat.le_of_ble_eq_true rfl, Nat.le_of_ble_eq_true rfl⟩ d_law_612 ?_
  exact X_icmp_eq C.1 d_law_615 (by decide) (fun _ => kk _ (RR_j hR)) (fun q => absurd rfl q)
theorem lc_likely {M : Mem} (C : LC p s m meth c b Ls xs G) (h : RR M (mB M)) {i : Nat} (hi : i + 6 ≤ Ls) (hL : Ls ≤ 3072) (kk : ∀ M', RR M' (mB M') → XJ shW p l e room_1 s m #[Value.ref b] below meth c 77 3974 G 4 (lw_Z below #[Value.ref b] s) 1094 (LL i) [] M') : XJ shW p l e room_1 s m #[Value.ref b] below meth c 77 3974 G 4 (lw_Z below #[Value.ref b] s) 620 (LL i) [] M := by
  obtain ⟨v, A', B', e1, e2, hR⟩ := likely_S h (xs (i + 1))
  refine X_aload_n C.1 d_law_620 rfl ?_
  refine X_arg C (kn := 1) hL (by omega) rfl d_law_621 d_law_622 d_law_623 d_law_624 d_law_625 ?_
  refine X_lawA C (is := [xs (i + 1)]) (rest := []) (r := (some (.long v), A')) fkR_law_89 feX8_likely fvX8_likely rfl ⟨_, _, _, rfl, rfl, rfl⟩ (F8_likely_met (D := 120) C.2.1 (by decide) e1) rfl rfl rfl (Nat.le_of_ble_eq_true rfl) ⟨Nat.le_of_ble_eq_true rfl, Nat.le_of_ble_eq_true rfl, Nat.le_of_ble_eq_true rfl, Nat.le_of_ble_eq_true rfl⟩ d_law_626 ?_
  refine X_aload_n C.1 d_law_629 rfl ?_
  refine X_arg C (kn := 1) hL (by omega) rfl d_law_630 d_law_631 d_law_632 d_law_633 d_law_634 ?_
  rw [← mB_jA A' M] at e2
  refine X_lawB C (is := [xs (i + 1)]) (rest := [.long v]) (r := (some (.long v), B')) fkR_law_93 feX9_likely fvX9_likely rfl ⟨_, _, _, rfl, rfl, rfl⟩ (F9_likely_met (D := 120) C.2.2.1 (by decide) e2) rfl rfl rfl (Nat.le_of_ble_eq_true rfl) ⟨Nat.le_of_ble_eq_true rfl, Nat.le_of_ble_eq_true rfl, Nat.le_of_ble_eq_true rfl, Nat.le_of_ble_eq_true rfl⟩ d_law_635 ?_
  refine X_lcmp C.1 d_law_638 ?_
  exact X_if_eq C.1 d_law_639 (by decide) (fun _ => kk _ (RR_j hR)) (fun q => absurd (lg_cmp_self v) q)
theorem lc_slip {M : Mem} (C : LC p s m meth c b Ls xs G) (h : RR M (mB M)) {i : Nat} (hi : i + 6 ≤ Ls) (hL : Ls ≤ 3072) (kk : ∀ M', RR M' (mB M') → XJ shW p l e room_1 s m #[Value.ref b] below meth c 77 3974 G 4 (lw_Z below #[Value.ref b] s) 1094 (LL i) [] M') : XJ shW p l e room_1 s m #[Value.ref b] below meth c 77 3974 G 4 (lw_Z below #[Value.ref b] s) 644 (LL i) [] M := by
  obtain ⟨v, A', B', e1, e2, hR⟩ := slip_S h (xs (i + 1)) (xs (i + 2))
  refine X_aload_n C.1 d_law_644 rfl ?_
  refine X_arg C (kn := 1) hL (by omega) rfl d_law_645 d_law_646 d_law_647 d_law_648 d_law_649 ?_
  refine X_arg C (kn := 2) hL (by omega) rfl d_law_650 d_law_651 d_law_652 d_law_653 d_law_654 ?_
  refine X_lawA C (is := [xs (i + 1), xs (i + 2)]) (rest := []) (r := (some (.int v), A')) fkR_law_94 feX8_slip fvX8_slip rfl ⟨_, _, _, rfl, rfl, rfl⟩ (F8_slip_met (D := 120) C.2.1 (by decide) e1) rfl rfl rfl (Nat.le_of_ble_eq_true rfl) ⟨Nat.le_of_ble_eq_true rfl, Nat.le_of_ble_eq_true rfl, Nat.le_of_ble_eq_true rfl, Nat.le_of_ble_eq_true rfl⟩ d_law_655 ?_
  refine X_aload_n C.1 d_law_658 rfl ?_
  refine X_arg C (kn := 1) hL (by omega) rfl d_law_659 d_law_660 d_law_661 d_law_662 d_law_663 ?_
  refine X_arg C (kn := 2) hL (by omega) rfl d_law_664 d_law_665 d_law_666 d_law_667 d_law_668 ?_
  rw [← mB_jA A' M] at e2
  refine X_lawB C (is := [xs (i + 1), xs (i + 2)]) (rest := [.int v]) (r := (some (.int v), B')) fkR_law_97 feX9_slip fvX9_slip rfl ⟨_, _, _, rfl, rfl, rfl⟩ (F9_slip_met (D := 120) C.2.2.1 (by decide) e2) rfl rfl rfl (Nat.le_of_ble_eq_true rfl) ⟨Nat.le_of_ble_eq_true rfl, Nat.le_of_ble_eq_true rfl, Nat.le_of_ble_eq_true rfl, Nat.le_of_ble_eq_true rfl⟩ d_law_669 ?_
  exact X_icmp_eq C.1 d_law_672 (by decide) (fun _ => kk _ (RR_j hR)) (fun q => absurd rfl q)
theorem lc_served {M : Mem} (C : LC p s m meth c b Ls xs G) (h : RR M (mB M)) {i : Nat} (hi : i + 6 ≤ Ls) (hL : Ls ≤ 3072) (kk : ∀ M', RR M' (mB M') → XJ shW p l e room_1 s m #[Value.ref b] below meth c 77 3974 G 4 (lw_Z below #[Value.ref b] s) 1094 (LL i) [] M') : XJ shW p l e room_1 s m #[Value.ref b] below meth c 77 3974 G 4 (lw_Z below #[Value.ref b] s) 677 (LL i) [] M := by
  obtain ⟨v, A', B', e1, e2, hR⟩ := served_S h (xs (i + 1)) (xs (i + 2))
  refine X_aload_n C.1 d_law_677 rfl ?_
  refine X_arg C (kn := 1) hL (by omega) rfl d_law_678 d_law_679 d_law_680 d_law_681 d_law_682 ?_
  refine X_arg C (kn := 2) hL (by omega) rfl d_law_683 d_law_684 d_law_685 d_law_686 d_law_687 ?_
  refine X_lawA C (is := [xs (i + 1), xs (i + 2)]) (rest := []) (r := (some (.int v), A')) fkR_law_98 feX8_served fvX8_served rfl ⟨_, _, _, rfl, rfl, rfl⟩ (F8_served_met (D := 120) C.2.1 (by decide) e1) rfl rfl rfl (Nat.le_of_ble_eq_true rfl) ⟨Nat.le_of_ble_eq_true rfl, Nat.le_of_ble_eq_true rfl, Nat.le_of_ble_eq_true rfl, Nat.le_of_ble_eq_true rfl⟩ d_law_688 ?_
  refine X_aload_n C.1 d_law_691 rfl ?_
  refine X_arg C (kn := 1) hL (by omega) rfl d_law_692 d_law_693 d_law_694 d_law_695 d_law_696 ?_
  refine X_arg C (kn := 2) hL (by omega) rfl d_law_697 d_law_698 d_law_699 d_law_700 d_law_701 ?_
  rw [← mB_jA A' M] at e2
  refine X_lawB C (is := [xs (i + 1), xs (i + 2)]) (rest := [.int v]) (r := (some (.int v), B')) fkR_law_101 feX9_served fvX9_served rfl ⟨_, _, _, rfl, rfl, rfl⟩ (F9_served_met (D := 120) C.2.2.1 (by decide) e2) rfl rfl rfl (Nat.le_of_ble_eq_true rfl) ⟨Nat.le_of_ble_eq_true rfl, Nat.le_of_ble_eq_true rfl, Nat.le_of_ble_eq_true rfl, Nat.le_of_ble_eq_true rfl⟩ d_law_702 ?_
  exact X_icmp_eq C.1 d_law_705 (by decide) (fun _ => kk _ (RR_j hR)) (fun q => absurd rfl q)
theorem lc_film {M : Mem} (C : LC p s m meth c b Ls xs G) (h : RR M (mB M)) {i : Nat} (hi : i + 6 ≤ Ls) (hL : Ls ≤ 3072) (kk : ∀ M', RR M' (mB M') → XJ shW p l e room_1 s m #[Value.ref b] below meth c 77 3974 G 4 (lw_Z below #[Value.ref b] s) 1094 (LL i) [] M') : XJ shW p l e room_1 s m #[Value.ref b] below meth c 77 3974 G 4 (lw_Z below #[Value.ref b] s) 710 (LL i) [] M := by
  obtain ⟨v, A', B', e1, e2, hR⟩ := film_S h (xs (i + 1)) (xs (i + 2))
  refine X_aload_n C.1 d_law_710 rfl ?_
  refine X_arg C (kn := 1) hL (by omega) rfl d_law_711 d_law_712 d_law_713 d_law_714 d_law_715 ?_
  refine X_arg C (kn := 2) hL (by omega) rfl d_law_716 d_law_717 d_law_718 d_law_719 d_law_720 ?_
  refine X_lawA C (is := [xs (i + 1), xs (i + 2)]) (rest := []) (r := (some (.int v), A')) fkR_law_102 feX8_film fvX8_film rfl ⟨_, _, _, rfl, rfl, rfl⟩ (F8_film_met (D := 120) C.2.1 (by decide) e1) rfl rfl rfl (Nat.le_of_ble_eq_true rfl) ⟨Nat.le_of_ble_eq_true rfl, Nat.le_of_ble_eq_true rfl, Nat.le_of_ble_eq_true rfl, Nat.le_of_ble_eq_true rfl⟩ d_law_721 ?_
  refine X_aload_n C.1 d_law_724 rfl ?_
  refine X_arg C (kn := 1) hL (by omega) rfl d_law_725 d_law_726 d_law_727 d_law_728 d_law_729 ?_
  refine X_arg C (kn := 2) hL (by omega) rfl d_law_730 d_law_731 d_law_732 d_law_733 d_law_734 ?_
  rw [← mB_jA A' M] at e2
  refine X_lawB C (is := [xs (i + 1), xs (i + 2)]) (rest := [.int v]) (r := (some (.int v), B')) fkR_law_105 feX9_film fvX9_film rfl ⟨_, _, _, rfl, rfl, rfl⟩ (F9_film_met (D := 120) C.2.2.1 (by decide) e2) rfl rfl rfl (Nat.le_of_ble_eq_true rfl) ⟨Nat.le_of_ble_eq_true rfl, Nat.le_of_ble_eq_true rfl, Nat.le_of_ble_eq_true rfl, Nat.le_of_ble_eq_true rfl⟩ d_law_735 ?_
  exact X_icmp_eq C.1 d_law_738 (by decide) (fun _ => kk _ (RR_j hR)) (fun q => absurd rfl q)
theorem lc_drawn {M : Mem} (C : LC p s m meth c b Ls xs G) (h : RR M (mB M)) {i : Nat} (hi : i + 6 ≤ Ls) (hL : Ls ≤ 3072) (kk : ∀ M', RR M' (mB M') → XJ shW p l e room_1 s m #[Value.ref b] below meth c 77 3974 G 4 (lw_Z below #[Value.ref b] s) 1094 (LL i) [] M') : XJ shW p l e room_1 s m #[Value.ref b] below meth c 77 3974 G 4 (lw_Z below #[Value.ref b] s) 743 (LL i) [] M := by
  obtain ⟨v, A', B', e1, e2, hR⟩ := drawn_S h (xs (i + 1))
  refine X_aload_n C.1 d_law_743 rfl ?_
  refine X_arg C (kn := 1) hL (by omega) rfl d_law_744 d_law_745 d_law_746 d_law_747 d_law_748 ?_
  refine X_lawA C (is := [xs (i + 1)]) (rest := []) (r := (some (.int v), A')) fkR_law_106 feX8_drawn fvX8_drawn rfl ⟨_, _, _, rfl, rfl, rfl⟩ (F8_drawn_met (D := 120) C.2.1 (by decide) e1) rfl rfl rfl (Nat.le_of_ble_eq_true rfl) ⟨Nat.le_of_ble_eq_true rfl, Nat.le_of_ble_eq_true rfl, Nat.le_of_ble_eq_true rfl, Nat.le_of_ble_eq_true rfl⟩ d_law_749 ?_
  refine X_aload_n C.1 d_law_752 rfl ?_
  refine X_arg C (kn := 1) hL (by omega) rfl d_law_753 d_law_754 d_law_755 d_law_756 d_law_757 ?_
  rw [← mB_jA A' M] at e2
  refine X_lawB C (is := [xs (i + 1)]) (rest := [.int v]) (r := (some (.int v), B')) fkR_law_109 feX9_drawn fvX9_drawn rfl ⟨_, _, _, rfl, rfl, rfl⟩ (F9_drawn_met (D := 120) C.2.2.1 (by decide) e2) rfl rfl rfl (Nat.le_of_ble_eq_true rfl) ⟨Nat.le_of_ble_eq_true rfl, Nat.le_of_ble_eq_true rfl, Nat.le_of_ble_eq_true rfl, Nat.le_of_ble_eq_true rfl⟩ d_law_758 ?_
  exact X_icmp_eq C.1 d_law_761 (by decide) (fun _ => kk _ (RR_j hR)) (fun q => absurd rfl q)
theorem lc_chance {M : Mem} (C : LC p s m meth c b Ls xs G) (h : RR M (mB M)) {i : Nat} (hi : i + 6 ≤ Ls) (hL : Ls ≤ 3072) (kk : ∀ M', RR M' (mB M') → XJ shW p l e room_1 s m #[Value.ref b] below meth c 77 3974 G 4 (lw_Z below #[Value.ref b] s) 1094 (LL i) [] M') : XJ shW p l e room_1 s m #[Value.ref b] below meth c 77 3974 G 4 (lw_Z below #[Value.ref b] s) 766 (LL i) [] M := by
  obtain ⟨v, A', B', e1, e2, hR⟩ := chance_S h (xs (i + 1)) (xs (i + 2)) (xs (i + 3))
  refine X_aload_n C.1 d_law_766 rfl ?_
  refine X_arg C (kn := 1) hL (by omega) rfl d_law_767 d_law_768 d_law_769 d_law_770 d_law_771 ?_
  refine X_arg C (kn := 2) hL (by omega) rfl d_law_772 d_law_773 d_law_774 d_law_775 d_law_776 ?_
  refine X_arg C (kn := 3) hL (by omega) rfl d_law_777 d_law_778 d_law_779 d_law_780 d_law_781 ?_
  refine X_lawA C (is := [xs (i + 1), xs (i + 2), xs (i + 3)]) (rest := []) (r := (some (.long v), A')) fkR_law_110 feX8_chance fvX8_chance rfl ⟨_, _, _, rfl, rfl, rfl⟩ (F8_chance_met (D := 120) C.2.1 (by decide) e1) rfl rfl rfl (Nat.le_of_ble_eq_true rfl) ⟨Nat.le_of_ble_eq_true rfl, Nat.le_of_ble_eq_true rfl, Nat.le_of_ble_eq_true rfl, Nat.le_of_ble_eq_true rfl⟩ d_law_782 ?_
  refine X_aload_n C.1 d_law_785 rfl ?_
  refine X_arg C (kn := 1) hL (by omega) rfl d_law_786 d_law_787 d_law_788 d_law_789 d_law_790 ?_
  refine X_arg C (kn := 2) hL (by omega) rfl d_law_791 d_law_792 d_law_793 d_law_794 d_law_795 ?_
  refine X_arg C (kn := 3) hL (by omega) rfl d_law_796 d_law_797 d_law_798 d_law_799 d_law_800 ?_
  rw [← mB_jA A' M] at e2
  refine X_lawB C (is := [xs (i + 1), xs (i + 2), xs (i + 3)]) (rest := [.long v]) (r := (some (.long v), B')) fkR_law_114 feX9_chance fvX9_chance rfl ⟨_, _, _, rfl, rfl, rfl⟩ (F9_chance_met (D := 120) C.2.2.1 (by decide) e2) rfl rfl rfl (Nat.le_of_ble_eq_true rfl) ⟨Nat.le_of_ble_eq_true rfl, Nat.le_of_ble_eq_true rfl, Nat.le_of_ble_eq_true rfl, Nat.le_of_ble_eq_true rfl⟩ d_law_801 ?_
  refine X_lcmp C.1 d_law_804 ?_
  exact X_if_eq C.1 d_law_805 (by decide) (fun _ => kk _ (RR_j hR)) (fun q => absurd (lg_cmp_self v) q)
theorem lc_image {M : Mem} (C : LC p s m meth c b Ls xs G) (h : RR M (mB M)) {i : Nat} (hi : i + 6 ≤ Ls) (hL : Ls ≤ 3072) (kk : ∀ M', RR M' (mB M') → XJ shW p l e room_1 s m #[Value.ref b] below meth c 77 3974 G 4 (lw_Z below #[Value.ref b] s) 1094 (LL i) [] M') : XJ shW p l e room_1 s m #[Value.ref b] below meth c 77 3974 G 4 (lw_Z below #[Value.ref b] s) 810 (LL i) [] M := by
  obtain ⟨v, A', B', e1, e2, hR⟩ := image_S h 
  refine X_aload_n C.1 d_law_810 rfl ?_
  refine X_lawA C (is := []) (rest := []) (r := (some (.int v), A')) fkR_law_115 feX8_image fvX8_image rfl ⟨_, _, _, rfl, rfl, rfl⟩ (F8_image_met (D := 120) C.2.1 (by decide) e1) rfl rfl rfl (Nat.le_of_ble_eq_true rfl) ⟨Nat.le_of_ble_eq_true rfl, Nat.le_of_ble_eq_true rfl, Nat.le_of_ble_eq_true rfl, Nat.le_of_ble_eq_true rfl⟩ d_law_811 ?_
  refine X_aload_n C.1 d_law_814 rfl ?_
  rw [← mB_jA A' M] at e2
  refine X_lawB C (is := []) (rest := [.int v]) (r := (some (.int v), B')) fkR_law_118 feX9_image fvX9_image rfl ⟨_, _, _, rfl, rfl, rfl⟩ (F9_image_met (D := 120) C.2.2.1 (by decide) e2) rfl rfl rfl (Nat.le_of_ble_eq_true rfl) ⟨Nat.le_of_ble_eq_true rfl, Nat.le_of_ble_eq_true rfl, Nat.le_of_ble_eq_true rfl, Nat.le_of_ble_eq_true rfl⟩ d_law_815 ?_
  exact X_icmp_eq C.1 d_law_818 (by decide) (fun _ => kk _ (RR_j hR)) (fun q => absurd rfl q)
theorem lc_back {M : Mem} (C : LC p s m meth c b Ls xs G) (h : RR M (mB M)) {i : Nat} (hi : i + 6 ≤ Ls) (hL : Ls ≤ 3072) (kk : ∀ M', RR M' (mB M') → XJ shW p l e room_1 s m #[Value.ref b] below meth c 77 3974 G 4 (lw_Z below #[Value.ref b] s) 1094 (LL i) [] M') : XJ shW p l e room_1 s m #[Value.ref b] below meth c 77 3974 G 4 (lw_Z below #[Value.ref b] s) 823 (LL i) [] M := by
  obtain ⟨v, A', B', e1, e2, hR⟩ := back_S h 
  refine X_aload_n C.1 d_law_823 rfl ?_
  refine X_lawA C (is := []) (rest := []) (r := (some (.int v), A')) fkR_law_119 feX8_back fvX8_back rfl ⟨_, _, _, rfl, rfl, rfl⟩ (F8_back_met (D := 120) C.2.1 (by decide) e1) rfl rfl rfl (Nat.le_of_ble_eq_true rfl) ⟨Nat.le_of_ble_eq_true rfl, Nat.le_of_ble_eq_true rfl, Nat.le_of_ble_eq_true rfl, Nat.le_of_ble_eq_true rfl⟩ d_law_824 ?_
  refine X_aload_n C.1 d_law_827 rfl ?_
  rw [← mB_jA A' M] at e2
  refine X_lawB C (is := []) (rest := [.int v]) (r := (some (.int v), B')) fkR_law_122 feX9_back fvX9_back rfl ⟨_, _, _, rfl, rfl, rfl⟩ (F9_back_met (D := 120) C.2.2.1 (by decide) e2) rfl rfl rfl (Nat.le_of_ble_eq_true rfl) ⟨Nat.le_of_ble_eq_true rfl, Nat.le_of_ble_eq_true rfl, Nat.le_of_ble_eq_true rfl, Nat.le_of_ble_eq_true rfl⟩ d_law_828 ?_
  exact X_icmp_eq C.1 d_law_831 (by decide) (fun _ => kk _ (RR_j hR)) (fun q => absurd rfl q)
theorem lc_count {M : Mem} (C : LC p s m meth c b Ls xs G) (h : RR M (mB M)) {i : Nat} (hi : i + 6 ≤ Ls) (hL : Ls ≤ 3072) (kk : ∀ M', RR M' (mB M') → XJ shW p l e room_1 s m #[Value.ref b] below meth c 77 3974 G 4 (lw_Z below #[Value.ref b] s) 1094 (LL i) [] M') : XJ shW p l e room_1 s m #[Value.ref b] below meth c 77 3974 G 4 (lw_Z below #[Value.ref b] s) 836 (LL i) [] M := by
  obtain ⟨v, A', B', e1, e2, hR⟩ := count_S h (xs (i + 1))
  refine X_aload_n C.1 d_law_836 rfl ?_
  refine X_arg C (kn := 1) hL (by omega) rfl d_law_837 d_law_838 d_law_839 d_law_840 d_law_841 ?_
  refine X_lawA C (is := [xs (i + 1)]) (rest := []) (r := (some (.int v), A')) fkR_law_123 feX8_count fvX8_count rfl ⟨_, _, _, rfl, rfl, rfl⟩ (F8_count_met (D := 120) C.2.1 (by decide) e1) rfl rfl rfl (Nat.le_of_ble_eq_true rfl) ⟨Nat.le_of_ble_eq_true rfl, Nat.le_of_ble_eq_true rfl, Nat.le_of_ble_eq_true rfl, Nat.le_of_ble_eq_true rfl⟩ d_law_842 ?_
  refine X_aload_n C.1 d_law_845 rfl ?_
  refine X_arg C (kn := 1) hL (by omega) rfl d_law_846 d_law_847 d_law_848 d_law_849 d_law_850 ?_
  rw [← mB_jA A' M] at e2
  refine X_lawB C (is := [xs (i + 1)]) (rest := [.int v]) (r := (some (.int v), B')) fkR_law_126 feX9_count fvX9_count rfl ⟨_, _, _, rfl, rfl, rfl⟩ (F9_count_met (D := 120) C.2.2.1 (by decide) e2) rfl rfl rfl (Nat.le_of_ble_eq_true rfl) ⟨Nat.le_of_ble_eq_true rfl, Nat.le_of_ble_eq_true rfl, Nat.le_of_ble_eq_true rfl, Nat.le_of_ble_eq_true rfl⟩ d_law_851 ?_
  exact X_icmp_eq C.1 d_law_854 (by decide) (fun _ => kk _ (RR_j hR)) (fun q => absurd rfl q)
theorem lc_sheet {M : Mem} (C : LC p s m meth c b Ls xs G) (h : RR M (mB M)) {i : Nat} (hi : i + 6 ≤ Ls) (hL : Ls ≤ 3072) (kk : ∀ M', RR M' (mB M') → XJ shW p l e room_1 s m #[Value.ref b] below meth c 77 3974 G 4 (lw_Z below #[Value.ref b] s) 1094 (LL i) [] M') : XJ shW p l e room_1 s m #[Value.ref b] below meth c 77 3974 G 4 (lw_Z below #[Value.ref b] s) 859 (LL i) [] M := by
  obtain ⟨v, A', B', e1, e2, hR⟩ := sheet_S h (xs (i + 1)) (xs (i + 2)) (xs (i + 3))
  refine X_aload_n C.1 d_law_859 rfl ?_
  refine X_arg C (kn := 1) hL (by omega) rfl d_law_860 d_law_861 d_law_862 d_law_863 d_law_864 ?_
  refine X_arg C (kn := 2) hL (by omega) rfl d_law_865 d_law_866 d_law_867 d_law_868 d_law_869 ?_
  refine X_arg C (kn := 3) hL (by omega) rfl d_law_870 d_law_871 d_law_872 d_law_873 d_law_874 ?_
  refine X_lawA C (is := [xs (i + 1), xs (i + 2), xs (i + 3)]) (rest := []) (r := (some (.int v), A')) fkR_law_127 feX8_sheet fvX8_sheet rfl ⟨_, _, _, rfl, rfl, rfl⟩ (F8_sheet_met (D := 120) C.2.1 (by decide) e1) rfl rfl rfl (Nat.le_of_ble_eq_true rfl) ⟨Nat.le_of_ble_eq_true rfl, Nat.le_of_ble_eq_true rfl, Nat.le_of_ble_eq_true rfl, Nat.le_of_ble_eq_true rfl⟩ d_law_875 ?_
  refine X_aload_n C.1 d_law_878 rfl ?_
  refine X_arg C (kn := 1) hL (by omega) rfl d_law_879 d_law_880 d_law_881 d_law_882 d_law_883 ?_
  refine X_arg C (kn := 2) hL (by omega) rfl d_law_884 d_law_885 d_law_886 d_law_887 d_law_888 ?_
  refine X_arg C (kn := 3) hL (by omega) rfl d_law_889 d_law_890 d_law_891 d_law_892 d_law_893 ?_
  rw [← mB_jA A' M] at e2
  refine X_lawB C (is := [xs (i + 1), xs (i + 2), xs (i + 3)]) (rest := [.int v]) (r := (some (.int v), B')) fkR_law_130 feX9_sheet fvX9_sheet rfl ⟨_, _, _, rfl, rfl, rfl⟩ (F9_sheet_met (D := 120) C.2.2.1 (by decide) e2) rfl rfl rfl (Nat.le_of_ble_eq_true rfl) ⟨Nat.le_of_ble_eq_true rfl, Nat.le_of_ble_eq_true rfl, Nat.le_of_ble_eq_true rfl, Nat.le_of_ble_eq_true rfl⟩ d_law_894 ?_
  exact X_icmp_eq C.1 d_law_897 (by decide) (fun _ => kk _ (RR_j hR)) (fun q => absurd rfl q)
theorem lc_cell {M : Mem} (C : LC p s m meth c b Ls xs G) (h : RR M (mB M)) {i : Nat} (hi : i + 6 ≤ Ls) (hL : Ls ≤ 3072) (kk : ∀ M', RR M' (mB M') → XJ shW p l e room_1 s m #[Value.ref b] below meth c 77 3974 G 4 (lw_Z below #[Value.ref b] s) 1094 (LL i) [] M') : XJ shW p l e room_1 s m #[Value.ref b] below meth c 77 3974 G 4 (lw_Z below #[Value.ref b] s) 902 (LL i) [] M := by
  obtain ⟨v, A', B', e1, e2, hR⟩ := cell_S h (xs (i + 1)) (xs (i + 2)) (xs (i + 3))
  refine X_aload_n C.1 d_law_902 rfl ?_
  refine X_arg C (kn := 1) hL (by omega) rfl d_law_903 d_law_904 d_law_905 d_law_906 d_law_907 ?_
  refine X_arg C (kn := 2) hL (by omega) rfl d_law_908 d_law_909 d_law_910 d_law_911 d_law_912 ?_
  refine X_arg C (kn := 3) hL (by omega) rfl d_law_913 d_law_914 d_law_915 d_law_916 d_law_917 ?_
  refine X_lawA C (is := [xs (i + 1), xs (i + 2), xs (i + 3)]) (rest := []) (r := (some (.int v), A')) fkR_law_131 feX8_cell fvX8_cell rfl ⟨_, _, _, rfl, rfl, rfl⟩ (F8_cell_met (D := 120) C.2.1 (by decide) e1) rfl rfl rfl (Nat.le_of_ble_eq_true rfl) ⟨Nat.le_of_ble_eq_true rfl, Nat.le_of_ble_eq_true rfl, Nat.le_of_ble_eq_true rfl, Nat.le_of_ble_eq_true rfl⟩ d_law_918 ?_
  refine X_aload_n C.1 d_law_921 rfl ?_
  refine X_arg C (kn := 1) hL (by omega) rfl d_law_922 d_law_923 d_law_924 d_law_925 d_law_926 ?_
  refine X_arg C (kn := 2) hL (by omega) rfl d_law_927 d_law_928 d_law_929 d_law_930 d_law_931 ?_
  refine X_arg C (kn := 3) hL (by omega) rfl d_law_932 d_law_933 d_law_934 d_law_935 d_law_936 ?_
  rw [← mB_jA A' M] at e2
  refine X_lawB C (is := [xs (i + 1), xs (i + 2), xs (i + 3)]) (rest := [.int v]) (r := (some (.int v), B')) fkR_law_134 feX9_cell fvX9_cell rfl ⟨_, _, _, rfl, rfl, rfl⟩ (F9_cell_met (D := 120) C.2.2.1 (by decide) e2) rfl rfl rfl (Nat.le_of_ble_eq_true rfl) ⟨Nat.le_of_ble_eq_true rfl, Nat.le_of_ble_eq_true rfl, Nat.le_of_ble_eq_true rfl, Nat.le_of_ble_eq_true rfl⟩ d_law_937 ?_
  exact X_icmp_eq C.1 d_law_940 (by decide) (fun _ => kk _ (RR_j hR)) (fun q => absurd rfl q)
theorem lc_copy {M : Mem} (C : LC p s m meth c b Ls xs G) (h : RR M (mB M)) {i : Nat} (hi : i + 6 ≤ Ls) (hL : Ls ≤ 3072) (kk : ∀ M', RR M' (mB M') → XJ shW p l e room_1 s m #[Value.ref b] below meth c 77 3974 G 4 (lw_Z below #[Value.ref b] s) 1094 (LL i) [] M') : XJ shW p l e room_1 s m #[Value.ref b] below meth c 77 3974 G 4 (lw_Z below #[Value.ref b] s) 945 (LL i) [] M := by
  obtain ⟨v, A', B', e1, e2, hR⟩ := copy_S h (xs (i + 1)) (xs (i + 2)) (xs (i + 3)) (xs (i + 4)) (xs (i + 5))
  refine X_aload_n C.1 d_law_945 rfl ?_
  refine X_arg C (kn := 1) hL (by omega) rfl d_law_946 d_law_947 d_law_948 d_law_949 d_law_950 ?_
  refine X_arg C (kn := 2) hL (by omega) rfl d_law_951 d_law_952 d_law_953 d_law_954 d_law_955 ?_
  refine X_arg C (kn := 3) hL (by omega) rfl d_law_956 d_law_957 d_law_958 d_law_959 d_law_960 ?_
  refine X_arg C (kn := 4) hL (by omega) rfl d_law_961 d_law_962 d_law_963 d_law_964 d_law_965 ?_
  refine X_arg C (kn := 5) hL (by omega) rfl d_law_966 d_law_967 d_law_968 d_law_969 d_law_970 ?_
  refine X_lawA C (is := [xs (i + 1), xs (i + 2), xs (i + 3), xs (i + 4), xs (i + 5)]) (rest := []) (r := (some (.int v), A')) fkR_law_135 feX8_copy fvX8_copy rfl ⟨_, _, _, rfl, rfl, rfl⟩ (F8_copy_met (D := 120) C.2.1 (by decide) e1) rfl rfl rfl (Nat.le_of_ble_eq_true rfl) ⟨Nat.le_of_ble_eq_true rfl, Nat.le_of_ble_eq_true rfl, Nat.le_of_ble_eq_true rfl, Nat.le_of_ble_eq_true rfl⟩ d_law_971 ?_
  refine X_aload_n C.1 d_law_974 rfl ?_
  refine X_arg C (kn := 1) hL (by omega) rfl d_law_975 d_law_976 d_law_977 d_law_978 d_law_979 ?_
  refine X_arg C (kn := 2) hL (by omega) rfl d_law_980 d_law_981 d_law_982 d_law_983 d_law_984 ?_
  refine X_arg C (kn := 3) hL (by omega) rfl d_law_985 d_law_986 d_law_987 d_law_988 d_law_989 ?_
  refine X_arg C (kn := 4) hL (by omega) rfl d_law_990 d_law_991 d_law_992 d_law_993 d_law_994 ?_
  refine X_arg C (kn := 5) hL (by omega) rfl d_law_995 d_law_996 d_law_997 d_law_998 d_law_999 ?_
  rw [← mB_jA A' M] at e2
  refine X_lawB C (is := [xs (i + 1), xs (i + 2), xs (i + 3), xs (i + 4), xs (i + 5)]) (rest := [.int v]) (r := (some (.int v), B')) fkR_law_139 feX9_copy fvX9_copy rfl ⟨_, _, _, rfl, rfl, rfl⟩ (F9_copy_met (D := 120) C.2.2.1 (by decide) e2) rfl rfl rfl (Nat.le_of_ble_eq_true rfl) ⟨Nat.le_of_ble_eq_true rfl, Nat.le_of_ble_eq_true rfl, Nat.le_of_ble_eq_true rfl, Nat.le_of_ble_eq_true rfl⟩ d_law_1000 ?_
  exact X_icmp_eq C.1 d_law_1003 (by decide) (fun _ => kk _ (RR_j hR)) (fun q => absurd rfl q)
theorem lc_customers {M : Mem} (C : LC p s m meth c b Ls xs G) (h : RR M (mB M)) {i : Nat} (hi : i + 6 ≤ Ls) (hL : Ls ≤ 3072) (kk : ∀ M', RR M' (mB M') → XJ shW p l e room_1 s m #[Value.ref b] below meth c 77 3974 G 4 (lw_Z below #[Value.ref b] s) 1094 (LL i) [] M') : XJ shW p l e room_1 s m #[Value.ref b] below meth c 77 3974 G 4 (lw_Z below #[Value.ref b] s) 1008 (LL i) [] M := by
  obtain ⟨v, A', B', e1, e2, hR⟩ := customers_S h (xs (i + 1)) (xs (i + 2)) (xs (i + 3)) (xs (i + 4))
  refine X_aload_n C.1 d_law_1008 rfl ?_
  refine X_arg C (kn := 1) hL (by omega) rfl d_law_1009 d_law_1010 d_law_1011 d_law_1012 d_law_1013 ?_
  refine X_arg C (kn := 2) hL (by omega) rfl d_law_1014 d_law_1015 d_law_1016 d_law_1017 d_law_1018 ?_
  refine X_arg C (kn := 3) hL (by omega) rfl d_law_1019 d_law_1020 d_law_1021 d_law_1022 d_law_1023 ?_
  refine X_arg C (kn := 4) hL (by omega) rfl d_law_1024 d_law_1025 d_law_1026 d_law_1027 d_law_1028 ?_
  refine X_lawA C (is := [xs (i + 1), xs (i + 2), xs (i + 3), xs (i + 4)]) (rest := []) (r := (some (.int v), A')) fkR_law_140 feX8_customers fvX8_customers rfl ⟨_, _, _, rfl, rfl, rfl⟩ (F8_customers_met (D := 120) C.2.1 (by decide) e1) rfl rfl rfl (Nat.le_of_ble_eq_true rfl) ⟨Nat.le_of_ble_eq_true rfl, Nat.le_of_ble_eq_true rfl, Nat.le_of_ble_eq_true rfl, Nat.le_of_ble_eq_true rfl⟩ d_law_1029 ?_
  refine X_aload_n C.1 d_law_1032 rfl ?_
  refine X_arg C (kn := 1) hL (by omega) rfl d_law_1033 d_law_1034 d_law_1035 d_law_1036 d_law_1037 ?_
  refine X_arg C (kn := 2) hL (by omega) rfl d_law_1038 d_law_1039 d_law_1040 d_law_1041 d_law_1042 ?_
  refine X_arg C (kn := 3) hL (by omega) rfl d_law_1043 d_law_1044 d_law_1045 d_law_1046 d_law_1047 ?_
  refine X_arg C (kn := 4) hL (by omega) rfl d_law_1048 d_law_1049 d_law_1050 d_law_1051 d_law_1052 ?_
  rw [← mB_jA A' M] at e2
  refine X_lawB C (is := [xs (i + 1), xs (i + 2), xs (i + 3), xs (i + 4)]) (rest := [.int v]) (r := (some (.int v), B')) fkR_law_144 feX9_customers fvX9_customers rfl ⟨_, _, _, rfl, rfl, rfl⟩ (F9_customers_met (D := 120) C.2.2.1 (by decide) e2) rfl rfl rfl (Nat.le_of_ble_eq_true rfl) ⟨Nat.le_of_ble_eq_true rfl, Nat.le_of_ble_eq_true rfl, Nat.le_of_ble_eq_true rfl, Nat.le_of_ble_eq_true rfl⟩ d_law_1053 ?_
  exact X_icmp_eq C.1 d_law_1056 (by decide) (fun _ => kk _ (RR_j hR)) (fun q => absurd rfl q)
theorem lc_taken {M : Mem} (C : LC p s m meth c b Ls xs G) (h : RR M (mB M)) {i : Nat} (hi : i + 6 ≤ Ls) (hL : Ls ≤ 3072) (kk : ∀ M', RR M' (mB M') → XJ shW p l e room_1 s m #[Value.ref b] below meth c 77 3974 G 4 (lw_Z below #[Value.ref b] s) 1094 (LL i) [] M') : XJ shW p l e room_1 s m #[Value.ref b] below meth c 77 3974 G 4 (lw_Z below #[Value.ref b] s) 1061 (LL i) [] M := by
  obtain ⟨v, A', B', e1, e2, hR⟩ := taken_S h (xs (i + 1)) (xs (i + 2))
  refine X_aload_n C.1 d_law_1061 rfl ?_
  refine X_arg C (kn := 1) hL (by omega) rfl d_law_1062 d_law_1063 d_law_1064 d_law_1065 d_law_1066 ?_
  refine X_arg C (kn := 2) hL (by omega) rfl d_law_1067 d_law_1068 d_law_1069 d_law_1070 d_law_1071 ?_
  refine X_lawA C (is := [xs (i + 1), xs (i + 2)]) (rest := []) (r := (some (.int v), A')) fkR_law_145 feX8_taken fvX8_taken rfl ⟨_, _, _, rfl, rfl, rfl⟩ (F8_taken_met (D := 120) C.2.1 (by decide) e1) rfl rfl rfl (Nat.le_of_ble_eq_true rfl) ⟨Nat.le_of_ble_eq_true rfl, Nat.le_of_ble_eq_true rfl, Nat.le_of_ble_eq_true rfl, Nat.le_of_ble_eq_true rfl⟩ d_law_1072 ?_
  refine X_aload_n C.1 d_law_1075 rfl ?_
  refine X_arg C (kn := 1) hL (by omega) rfl d_law_1076 d_law_1077 d_law_1078 d_law_1079 d_law_1080 ?_
  refine X_arg C (kn := 2) hL (by omega) rfl d_law_1081 d_law_1082 d_law_1083 d_law_1084 d_law_1085 ?_
  rw [← mB_jA A' M] at e2
  refine X_lawB C (is := [xs (i + 1), xs (i + 2)]) (rest := [.int v]) (r := (some (.int v), B')) fkR_law_148 feX9_taken fvX9_taken rfl ⟨_, _, _, rfl, rfl, rfl⟩ (F9_taken_met (D := 120) C.2.2.1 (by decide) e2) rfl rfl rfl (Nat.le_of_ble_eq_true rfl) ⟨Nat.le_of_ble_eq_true rfl, Nat.le_of_ble_eq_true rfl, Nat.le_of_ble_eq_true rfl, Nat.le_of_ble_eq_true rfl⟩ d_law_1086 ?_
  exact X_icmp_eq C.1 d_law_1089 (by decide) (fun _ => kk _ (RR_j hR)) (fun q => absurd rfl q)
end XCAS
