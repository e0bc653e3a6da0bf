section LAWC
variable {p : Program} {l : Launch} {e : Env} {s : State} {m : MethodId} {args : Array Value} {below : List Frame} {meth : Method} {c : Code} {H : Heap} {locs : List Loc} {Q : State → Prop}
variable {ls : Array Slot} {A : Nat → Prop} {b L i : Nat} {xs : Nat → Int32}
variable {dC : Nat → ClassId} {dI : Nat → Nat → Nat} {cy cz : ClassId} {o o2 : Nat} {a a2 : Nat → Nat} {Z X : Nat → Nat → Nat} {G T K : Nat → Nat}
set_option maxHeartbeats 4000000 in
set_option maxRecDepth 100000 in
theorem lc_question (fx : CallFix p m c cL_law 4 s args lw_ok RL) (hK : va_K (dC, dI) vwCl [(cy, .int), (cz, .boolean)] s) (hX : va_X b L xs s s.heap) (hbl : b < s.heap.size) (hA : ∀ q, s.heap.size ≤ q → A q) (hbA : ¬ A b) (hi : i + 5 ≤ L) (hL : L ≤ 2560) (hl : lv_has ls 4 [(0, .ref b), (1, .ref o), (2, .ref o2), (3, .int (nI i))]) (hI : Inv Z) (hR : MRel Z G T K) (hP : va_P (dC, dI) vwCl (bw cy cz o a Z X o2 a2 Z G T K) H) (hD : va_D A (bw cy cz o a Z X o2 a2 Z G T K)) (hS : va_S A s.heap H locs) (kk : ∀ (Z X : ST) (G T K : Nat → Nat) (H : Heap) (locs : List Loc), Inv Z → MRel Z G T K → va_P (dC, dI) vwCl (bw cy cz o a Z X o2 a2 Z G T K) H → va_D A (bw cy cz o a Z X o2 a2 Z G T K) → va_S A s.heap H locs → W p l e room_1 s m args below meth c H locs 25 3741 Q (F0 m 1233 ls [])) : W p l e room_1 s m args below meth c H locs 25 3741 Q (F0 m 168 ls []) := by
  obtain ⟨hx, hb, hml, hown, hts⟩ := id fx
  refine lv_aload_n hx hb dL_law_168 rfl (lv_at hl 1 rfl) ?_
  refine ld_1 hx hb hX hbl hbA hS hi hL hl dL_law_169 dL_law_170 dL_law_171 dL_law_172 dL_law_173 ?_
  refine ld_2 hx hb hX hbl hbA hS hi hL hl dL_law_174 dL_law_175 dL_law_176 dL_law_177 dL_law_178 ?_
  refine ld_3 hx hb hX hbl hbA hS hi hL hl dL_law_179 dL_law_180 dL_law_181 dL_law_182 dL_law_183 ?_
  refine l_Mi (As := [.int (xs (i + 1)), .int (xs (i + 2)), .int (xs (i + 3))]) (rest := []) fx (ct_X0_question l dC dI cy o a Z X _ (xs (i + 1)) (xs (i + 2)) (xs (i + 3)) hI) fyX0_question tM_RL_13 rfl rfl ⟨Nat.le_of_ble_eq_true rfl, Nat.le_of_ble_eq_true rfl⟩ hK hP hD hS hA rfl hl.1 rfl (Nat.le_of_ble_eq_true rfl) dL_law_184 ⟨Nat.le_of_ble_eq_true rfl, Nat.le_of_ble_eq_true rfl⟩ (fun r1 Z9 X9 H locs ew hP hD hS => ?_)
  obtain ⟨er, ez⟩ := ew
  try dsimp only at ez
  subst er
  rw [ez] at hP hD
  refine lv_aload_n hx hb dL_law_187 rfl (lv_at hl 2 rfl) ?_
  refine ld_1 hx hb hX hbl hbA hS hi hL hl dL_law_188 dL_law_189 dL_law_190 dL_law_191 dL_law_192 ?_
  refine ld_2 hx hb hX hbl hbA hS hi hL hl dL_law_193 dL_law_194 dL_law_195 dL_law_196 dL_law_197 ?_
  refine ld_3 hx hb hX hbl hbA hS hi hL hl dL_law_198 dL_law_199 dL_law_200 dL_law_201 dL_law_202 ?_
  refine n_Mi (As := [.int (xs (i + 1)), .int (xs (i + 2)), .int (xs (i + 3))]) (rest := [.int (fQ Z (xs (i + 1)) (xs (i + 2)) (xs (i + 3)))]) fx (ct_X1_question l dC dI cy cz o2 a2 Z G T K _ (xs (i + 1)) (xs (i + 2)) (xs (i + 3)) hI hR) fyX1_question tM_RL_17 rfl rfl ⟨Nat.le_of_ble_eq_true rfl, Nat.le_of_ble_eq_true rfl⟩ hK hP hD hS hA rfl hl.1 rfl (Nat.le_of_ble_eq_true rfl) dL_law_203 ⟨Nat.le_of_ble_eq_true rfl, Nat.le_of_ble_eq_true rfl⟩ (fun r2 Y9 G9 T9 K9 H locs ew hP hD hS => ?_)
  obtain ⟨er, ey, eR⟩ := ew
  try dsimp only at ey eR
  subst er
  rw [bw, mw_congr ey] at hP hD
  refine lv_icmp_eq (tgt := 1233) hx hb dL_law_206 (by decide) (fun _ => ?_) (fun h => absurd rfl h)
  exact kk _ _ _ _ _ _ _ (hI.que (xs (i + 1)) (xs (i + 2)) (xs (i + 3))) eR hP hD hS
set_option maxHeartbeats 4000000 in
set_option maxRecDepth 100000 in
theorem lc_key (fx : CallFix p m c cL_law 4 s args lw_ok RL) (hK : va_K (dC, dI) vwCl [(cy, .int), (cz, .boolean)] s) (hX : va_X b L xs s s.heap) (hbl : b < s.heap.size) (hA : ∀ q, s.heap.size ≤ q → A q) (hbA : ¬ A b) (hi : i + 5 ≤ L) (hL : L ≤ 2560) (hl : lv_has ls 4 [(0, .ref b), (1, .ref o), (2, .ref o2), (3, .int (nI i))]) (hI : Inv Z) (hR : MRel Z G T K) (hP : va_P (dC, dI) vwCl (bw cy cz o a Z X o2 a2 Z G T K) H) (hD : va_D A (bw cy cz o a Z X o2 a2 Z G T K)) (hS : va_S A s.heap H locs) (kk : ∀ (Z X : ST) (G T K : Nat → Nat) (H : Heap) (locs : List Loc), Inv Z → MRel Z G T K → va_P (dC, dI) vwCl (bw cy cz o a Z X o2 a2 Z G T K) H → va_D A (bw cy cz o a Z X o2 a2 Z G T K) → va_S A s.heap H locs → W p l e room_1 s m args below meth c H locs 25 3741 Q (F0 m 1233 ls [])) : W p l e room_1 s m args below meth c H locs 25 3741 Q (F0 m 211 ls []) := by
  obtain ⟨hx, hb, hml, hown, hts⟩ := id fx
  refine lv_aload_n hx hb dL_law_211 rfl (lv_at hl 1 rfl) ?_
  refine ld_1 hx hb hX hbl hbA hS hi hL hl dL_law_212 dL_law_213 dL_law_214 dL_law_215 dL_law_216 ?_
  refine ld_2 hx hb hX hbl hbA hS hi hL hl dL_law_217 dL_law_218 dL_law_219 dL_law_220 dL_law_221 ?_
  refine l_Mi (As := [.int (xs (i + 1)), .int (xs (i + 2))]) (rest := []) fx (ct_X0_key l dC dI cy o a Z X _ (xs (i + 1)) (xs (i + 2)) hI) fyX0_key tM_RL_18 rfl rfl ⟨Nat.le_of_ble_eq_true rfl, Nat.le_of_ble_eq_true rfl⟩ hK hP hD hS hA rfl hl.1 rfl (Nat.le_of_ble_eq_true rfl) dL_law_222 ⟨Nat.le_of_ble_eq_true rfl, Nat.le_of_ble_eq_true rfl⟩ (fun r1 Z9 X9 H locs ew hP hD hS => ?_)
  obtain ⟨er, ez⟩ := ew
  try dsimp only at ez
  subst er
  rw [ez] at hP hD
  refine lv_aload_n hx hb dL_law_225 rfl (lv_at hl 2 rfl) ?_
  refine ld_1 hx hb hX hbl hbA hS hi hL hl dL_law_226 dL_law_227 dL_law_228 dL_law_229 dL_law_230 ?_
  refine ld_2 hx hb hX hbl hbA hS hi hL hl dL_law_231 dL_law_232 dL_law_233 dL_law_234 dL_law_235 ?_
  refine n_Mi (As := [.int (xs (i + 1)), .int (xs (i + 2))]) (rest := [.int (fKey Z (xs (i + 1)) (xs (i + 2)))]) fx (ct_X1_key l dC dI cy cz o2 a2 Z G T K _ (xs (i + 1)) (xs (i + 2)) hI hR) fyX1_key tM_RL_22 rfl rfl ⟨Nat.le_of_ble_eq_true rfl, Nat.le_of_ble_eq_true rfl⟩ hK hP hD hS hA rfl hl.1 rfl (Nat.le_of_ble_eq_true rfl) dL_law_236 ⟨Nat.le_of_ble_eq_true rfl, Nat.le_of_ble_eq_true rfl⟩ (fun r2 Y9 G9 T9 K9 H locs ew hP hD hS => ?_)
  obtain ⟨er, ey, eR⟩ := ew
  try dsimp only at ey eR
  subst er
  rw [bw, mw_congr ey] at hP hD
  refine lv_icmp_eq (tgt := 1233) hx hb dL_law_239 (by decide) (fun _ => ?_) (fun h => absurd rfl h)
  exact kk _ _ _ _ _ _ _ (hI.key (xs (i + 1)) (xs (i + 2))) eR hP hD hS
set_option maxHeartbeats 4000000 in
set_option maxRecDepth 100000 in
theorem lc_strike (fx : CallFix p m c cL_law 4 s args lw_ok RL) (hK : va_K (dC, dI) vwCl [(cy, .int), (cz, .boolean)] s) (hX : va_X b L xs s s.heap) (hbl : b < s.heap.size) (hA : ∀ q, s.heap.size ≤ q → A q) (hbA : ¬ A b) (hi : i + 5 ≤ L) (hL : L ≤ 2560) (hl : lv_has ls 4 [(0, .ref b), (1, .ref o), (2, .ref o2), (3, .int (nI i))]) (hI : Inv Z) (hR : MRel Z G T K) (hP : va_P (dC, dI) vwCl (bw cy cz o a Z X o2 a2 Z G T K) H) (hD : va_D A (bw cy cz o a Z X o2 a2 Z G T K)) (hS : va_S A s.heap H locs) (kk : ∀ (Z X : ST) (G T K : Nat → Nat) (H : Heap) (locs : List Loc), Inv Z → MRel Z G T K → va_P (dC, dI) vwCl (bw cy cz o a Z X o2 a2 Z G T K) H → va_D A (bw cy cz o a Z X o2 a2 Z G T K) → va_S A s.heap H locs → W p l e room_1 s m args below meth c H locs 25 3741 Q (F0 m 1233 ls [])) : W p l e room_1 s m args below meth c H locs 25 3741 Q (F0 m 244 ls []) := by
  obtain ⟨hx, hb, hml, hown, hts⟩ := id fx
  refine lv_aload_n hx hb dL_law_244 rfl (lv_at hl 1 rfl) ?_
  refine ld_1 hx hb hX hbl hbA hS hi hL hl dL_law_245 dL_law_246 dL_law_247 dL_law_248 dL_law_249 ?_
  refine ld_2 hx hb hX hbl hbA hS hi hL hl dL_law_250 dL_law_251 dL_law_252 dL_law_253 dL_law_254 ?_
  refine l_Mi (As := [.int (xs (i + 1)), .int (xs (i + 2))]) (rest := []) fx (ct_X0_strike l dC dI cy o a Z X _ (xs (i + 1)) (xs (i + 2)) hI) fyX0_strike tM_RL_23 rfl rfl ⟨Nat.le_of_ble_eq_true rfl, Nat.le_of_ble_eq_true rfl⟩ hK hP hD hS hA rfl hl.1 rfl (Nat.le_of_ble_eq_true rfl) dL_law_255 ⟨Nat.le_of_ble_eq_true rfl, Nat.le_of_ble_eq_true rfl⟩ (fun r1 Z9 X9 H locs ew hP hD hS => ?_)
  obtain ⟨er, ez⟩ := ew
  try dsimp only at ez
  subst er
  rw [ez] at hP hD
  refine lv_aload_n hx hb dL_law_258 rfl (lv_at hl 2 rfl) ?_
  refine ld_1 hx hb hX hbl hbA hS hi hL hl dL_law_259 dL_law_260 dL_law_261 dL_law_262 dL_law_263 ?_
  refine ld_2 hx hb hX hbl hbA hS hi hL hl dL_law_264 dL_law_265 dL_law_266 dL_law_267 dL_law_268 ?_
  refine n_Mi (As := [.int (xs (i + 1)), .int (xs (i + 2))]) (rest := [.int (fStr Z (xs (i + 1)) (xs (i + 2)))]) fx (ct_X1_strike l dC dI cy cz o2 a2 Z G T K _ (xs (i + 1)) (xs (i + 2)) hI hR) fyX1_strike tM_RL_26 rfl rfl ⟨Nat.le_of_ble_eq_true rfl, Nat.le_of_ble_eq_true rfl⟩ hK hP hD hS hA rfl hl.1 rfl (Nat.le_of_ble_eq_true rfl) dL_law_269 ⟨Nat.le_of_ble_eq_true rfl, Nat.le_of_ble_eq_true rfl⟩ (fun r2 Y9 G9 T9 K9 H locs ew hP hD hS => ?_)
  obtain ⟨er, ey, eR⟩ := ew
  try dsimp only at ey eR
  subst er
  rw [bw, mw_congr ey] at hP hD
  refine lv_icmp_eq (tgt := 1233) hx hb dL_law_272 (by decide) (fun _ => ?_) (fun h => absurd rfl h)
  exact kk _ _ _ _ _ _ _ (hI.strk (xs (i + 1)) (xs (i + 2))) eR hP hD hS
set_option maxHeartbeats 4000000 in
set_option maxRecDepth 100000 in
theorem lc_paper (fx : CallFix p m c cL_law 4 s args lw_ok RL) (hK : va_K (dC, dI) vwCl [(cy, .int), (cz, .boolean)] s) (hX : va_X b L xs s s.heap) (hbl : b < s.heap.size) (hA : ∀ q, s.heap.size ≤ q → A q) (hbA : ¬ A b) (hi : i + 5 ≤ L) (hL : L ≤ 2560) (hl : lv_has ls 4 [(0, .ref b), (1, .ref o), (2, .ref o2), (3, .int (nI i))]) (hI : Inv Z) (hR : MRel Z G T K) (hP : va_P (dC, dI) vwCl (bw cy cz o a Z X o2 a2 Z G T K) H) (hD : va_D A (bw cy cz o a Z X o2 a2 Z G T K)) (hS : va_S A s.heap H locs) (kk : ∀ (Z X : ST) (G T K : Nat → Nat) (H : Heap) (locs : List Loc), Inv Z → MRel Z G T K → va_P (dC, dI) vwCl (bw cy cz o a Z X o2 a2 Z G T K) H → va_D A (bw cy cz o a Z X o2 a2 Z G T K) → va_S A s.heap H locs → W p l e room_1 s m args below meth c H locs 25 3741 Q (F0 m 1233 ls [])) : W p l e room_1 s m args below meth c H locs 25 3741 Q (F0 m 277 ls []) := by
  obtain ⟨hx, hb, hml, hown, hts⟩ := id fx
  refine lv_aload_n hx hb dL_law_277 rfl (lv_at hl 1 rfl) ?_
  refine l_Mi (As := []) (rest := []) fx (ct_X0_paper l dC dI cy o a Z X _  hI) fyX0_paper tM_RL_27 rfl rfl ⟨Nat.le_of_ble_eq_true rfl, Nat.le_of_ble_eq_true rfl⟩ hK hP hD hS hA rfl hl.1 rfl (Nat.le_of_ble_eq_true rfl) dL_law_278 ⟨Nat.le_of_ble_eq_true rfl, Nat.le_of_ble_eq_true rfl⟩ (fun r1 Z9 X9 H locs ew hP hD hS => ?_)
  obtain ⟨er, ez⟩ := ew
  try dsimp only at ez
  subst er
  rw [ez] at hP hD
  refine lv_aload_n hx hb dL_law_281 rfl (lv_at hl 2 rfl) ?_
  refine n_Mi (As := []) (rest := [.int (fPap Z )]) fx (ct_X1_paper l dC dI cy cz o2 a2 Z G T K _  hI hR) fyX1_paper tM_RL_31 rfl rfl ⟨Nat.le_of_ble_eq_true rfl, Nat.le_of_ble_eq_true rfl⟩ hK hP hD hS hA rfl hl.1 rfl (Nat.le_of_ble_eq_true rfl) dL_law_282 ⟨Nat.le_of_ble_eq_true rfl, Nat.le_of_ble_eq_true rfl⟩ (fun r2 Y9 G9 T9 K9 H locs ew hP hD hS => ?_)
  obtain ⟨er, ey, eR⟩ := ew
  try dsimp only at ey eR
  subst er
  rw [bw, mw_congr ey] at hP hD
  refine lv_icmp_eq (tgt := 1233) hx hb dL_law_285 (by decide) (fun _ => ?_) (fun h => absurd rfl h)
  exact kk _ _ _ _ _ _ _ (hI.pap ) eR hP hD hS
set_option maxHeartbeats 4000000 in
set_option maxRecDepth 100000 in
theorem lc_put (fx : CallFix p m c cL_law 4 s args lw_ok RL) (hK : va_K (dC, dI) vwCl [(cy, .int), (cz, .boolean)] s) (hX : va_X b L xs s s.heap) (hbl : b < s.heap.size) (hA : ∀ q, s.heap.size ≤ q → A q) (hbA : ¬ A b) (hi : i + 5 ≤ L) (hL : L ≤ 2560) (hl : lv_has ls 4 [(0, .ref b), (1, .ref o), (2, .ref o2), (3, .int (nI i))]) (hI : Inv Z) (hR : MRel Z G T K) (hP : va_P (dC, dI) vwCl (bw cy cz o a Z X o2 a2 Z G T K) H) (hD : va_D A (bw cy cz o a Z X o2 a2 Z G T K)) (hS : va_S A s.heap H locs) (kk : ∀ (Z X : ST) (G T K : Nat → Nat) (H : Heap) (locs : List Loc), Inv Z → MRel Z G T K → va_P (dC, dI) vwCl (bw cy cz o a Z X o2 a2 Z G T K) H → va_D A (bw cy cz o a Z X o2 a2 Z G T K) → va_S A s.heap H locs → W p l e room_1 s m args below meth c H locs 25 3741 Q (F0 m 1233 ls [])) : W p l e room_1 s m args below meth c H locs 25 3741 Q (F0 m 290 ls []) := by
  obtain ⟨hx, hb, hml, hown, hts⟩ := id fx
  refine lv_aload_n hx hb dL_law_290 rfl (lv_at hl 1 rfl) ?_
  refine ld_1 hx hb hX hbl hbA hS hi hL hl dL_law_291 dL_law_292 dL_law_293 dL_law_294 dL_law_295 ?_
  refine ld_2 hx hb hX hbl hbA hS hi hL hl dL_law_296 dL_law_297 dL_law_298 dL_law_299 dL_law_300 ?_
  refine l_Mi (As := [.int (xs (i + 1)), .int (xs (i + 2))]) (rest := []) fx (ct_X0_put l dC dI cy o a Z X _ (xs (i + 1)) (xs (i + 2)) hI) fyX0_put tM_RL_32 rfl rfl ⟨Nat.le_of_ble_eq_true rfl, Nat.le_of_ble_eq_true rfl⟩ hK hP hD hS hA rfl hl.1 rfl (Nat.le_of_ble_eq_true rfl) dL_law_301 ⟨Nat.le_of_ble_eq_true rfl, Nat.le_of_ble_eq_true rfl⟩ (fun r1 Z9 X9 H locs ew hP hD hS => ?_)
  obtain ⟨er, ez⟩ := ew
  try dsimp only at ez
  subst er
  rw [ez] at hP hD
  refine lv_aload_n hx hb dL_law_304 rfl (lv_at hl 2 rfl) ?_
  refine ld_1 hx hb hX hbl hbA hS hi hL hl dL_law_305 dL_law_306 dL_law_307 dL_law_308 dL_law_309 ?_
  refine ld_2 hx hb hX hbl hbA hS hi hL hl dL_law_310 dL_law_311 dL_law_312 dL_law_313 dL_law_314 ?_
  refine n_Mi (As := [.int (xs (i + 1)), .int (xs (i + 2))]) (rest := [.int (fPut Z (xs (i + 1)) (xs (i + 2)))]) fx (ct_X1_put l dC dI cy cz o2 a2 Z G T K _ (xs (i + 1)) (xs (i + 2)) hI hR) fyX1_put tM_RL_35 rfl rfl ⟨Nat.le_of_ble_eq_true rfl, Nat.le_of_ble_eq_true rfl⟩ hK hP hD hS hA rfl hl.1 rfl (Nat.le_of_ble_eq_true rfl) dL_law_315 ⟨Nat.le_of_ble_eq_true rfl, Nat.le_of_ble_eq_true rfl⟩ (fun r2 Y9 G9 T9 K9 H locs ew hP hD hS => ?_)
  obtain ⟨er, ey, eR⟩ := ew
  try dsimp only at ey eR
  subst er
  rw [bw, mw_congr ey] at hP hD
  refine lv_icmp_eq (tgt := 1233) hx hb dL_law_318 (by decide) (fun _ => ?_) (fun h => absurd rfl h)
  exact kk _ _ _ _ _ _ _ (hI.put (xs (i + 1)) (xs (i + 2))) eR hP hD hS
set_option maxHeartbeats 4000000 in
set_option maxRecDepth 100000 in
theorem lc_at (fx : CallFix p m c cL_law 4 s args lw_ok RL) (hK : va_K (dC, dI) vwCl [(cy, .int), (cz, .boolean)] s) (hX : va_X b L xs s s.heap) (hbl : b < s.heap.size) (hA : ∀ q, s.heap.size ≤ q → A q) (hbA : ¬ A b) (hi : i + 5 ≤ L) (hL : L ≤ 2560) (hl : lv_has ls 4 [(0, .ref b), (1, .ref o), (2, .ref o2), (3, .int (nI i))]) (hI : Inv Z) (hR : MRel Z G T K) (hP : va_P (dC, dI) vwCl (bw cy cz o a Z X o2 a2 Z G T K) H) (hD : va_D A (bw cy cz o a Z X o2 a2 Z G T K)) (hS : va_S A s.heap H locs) (kk : ∀ (Z X : ST) (G T K : Nat → Nat) (H : Heap) (locs : List Loc), Inv Z → MRel Z G T K → va_P (dC, dI) vwCl (bw cy cz o a Z X o2 a2 Z G T K) H → va_D A (bw cy cz o a Z X o2 a2 Z G T K) → va_S A s.heap H locs → W p l e room_1 s m args below meth c H locs 25 3741 Q (F0 m 1233 ls [])) : W p l e room_1 s m args below meth c H locs 25 3741 Q (F0 m 323 ls []) := by
  obtain ⟨hx, hb, hml, hown, hts⟩ := id fx
  refine lv_aload_n hx hb dL_law_323 rfl (lv_at hl 1 rfl) ?_
  refine ld_1 hx hb hX hbl hbA hS hi hL hl dL_law_324 dL_law_325 dL_law_326 dL_law_327 dL_law_328 ?_
  refine ld_2 hx hb hX hbl hbA hS hi hL hl dL_law_329 dL_law_330 dL_law_331 dL_law_332 dL_law_333 ?_
  refine l_Ri (As := [.int (xs (i + 1)), .int (xs (i + 2))]) (rest := []) fx (ct_X0_at l dC dI cy o a Z X (xs (i + 1)) (xs (i + 2)) hI) fyX0_at tM_RL_36 rfl rfl ⟨Nat.le_of_ble_eq_true rfl, Nat.le_of_ble_eq_true rfl⟩ hK hP rfl hl.1 rfl (Nat.le_of_ble_eq_true rfl) dL_law_334 ⟨Nat.le_of_ble_eq_true rfl, Nat.le_of_ble_eq_true rfl⟩ (fun r1 er => ?_)
  subst er
  refine lv_aload_n hx hb dL_law_337 rfl (lv_at hl 2 rfl) ?_
  refine ld_1 hx hb hX hbl hbA hS hi hL hl dL_law_338 dL_law_339 dL_law_340 dL_law_341 dL_law_342 ?_
  refine ld_2 hx hb hX hbl hbA hS hi hL hl dL_law_343 dL_law_344 dL_law_345 dL_law_346 dL_law_347 ?_
  refine n_Ri (As := [.int (xs (i + 1)), .int (xs (i + 2))]) (rest := [.int (fAt Z (xs (i + 1)) (xs (i + 2)))]) fx (ct_X1_at l dC dI cy cz o2 a2 Z G T K (xs (i + 1)) (xs (i + 2)) hI hR) fyX1_at tM_RL_39 rfl rfl ⟨Nat.le_of_ble_eq_true rfl, Nat.le_of_ble_eq_true rfl⟩ hK hP rfl hl.1 rfl (Nat.le_of_ble_eq_true rfl) dL_law_348 ⟨Nat.le_of_ble_eq_true rfl, Nat.le_of_ble_eq_true rfl⟩ (fun r2 er => ?_)
  subst er
  refine lv_icmp_eq (tgt := 1233) hx hb dL_law_351 (by decide) (fun _ => ?_) (fun h => absurd rfl h)
  exact kk _ _ _ _ _ _ _ hI hR hP hD hS
set_option maxHeartbeats 4000000 in
set_option maxRecDepth 100000 in
theorem lc_pupil (fx : CallFix p m c cL_law 4 s args lw_ok RL) (hK : va_K (dC, dI) vwCl [(cy, .int), (cz, .boolean)] s) (hX : va_X b L xs s s.heap) (hbl : b < s.heap.size) (hA : ∀ q, s.heap.size ≤ q → A q) (hbA : ¬ A b) (hi : i + 5 ≤ L) (hL : L ≤ 2560) (hl : lv_has ls 4 [(0, .ref b), (1, .ref o), (2, .ref o2), (3, .int (nI i))]) (hI : Inv Z) (hR : MRel Z G T K) (hP : va_P (dC, dI) vwCl (bw cy cz o a Z X o2 a2 Z G T K) H) (hD : va_D A (bw cy cz o a Z X o2 a2 Z G T K)) (hS : va_S A s.heap H locs) (kk : ∀ (Z X : ST) (G T K : Nat → Nat) (H : Heap) (locs : List Loc), Inv Z → MRel Z G T K → va_P (dC, dI) vwCl (bw cy cz o a Z X o2 a2 Z G T K) H → va_D A (bw cy cz o a Z X o2 a2 Z G T K) → va_S A s.heap H locs → W p l e room_1 s m args below meth c H locs 25 3741 Q (F0 m 1233 ls [])) : W p l e room_1 s m args below meth c H locs 25 3741 Q (F0 m 356 ls []) := by
  obtain ⟨hx, hb, hml, hown, hts⟩ := id fx
  refine lv_aload_n hx hb dL_law_356 rfl (lv_at hl 1 rfl) ?_
  refine ld_1 hx hb hX hbl hbA hS hi hL hl dL_law_357 dL_law_358 dL_law_359 dL_law_360 dL_law_361 ?_
  refine ld_2 hx hb hX hbl hbA hS hi hL hl dL_law_362 dL_law_363 dL_law_364 dL_law_365 dL_law_366 ?_
  refine l_Mi (As := [.int (xs (i + 1)), .int (xs (i + 2))]) (rest := []) fx (ct_X0_pupil l dC dI cy o a Z X _ (xs (i + 1)) (xs (i + 2)) hI) fyX0_pupil tM_RL_40 rfl rfl ⟨Nat.le_of_ble_eq_true rfl, Nat.le_of_ble_eq_true rfl⟩ hK hP hD hS hA rfl hl.1 rfl (Nat.le_of_ble_eq_true rfl) dL_law_367 ⟨Nat.le_of_ble_eq_true rfl, Nat.le_of_ble_eq_true rfl⟩ (fun r1 Z9 X9 H locs ew hP hD hS => ?_)
  obtain ⟨er, ez⟩ := ew
  try dsimp only at ez
  subst er
  rw [ez] at hP hD
  refine lv_aload_n hx hb dL_law_370 rfl (lv_at hl 2 rfl) ?_
  refine ld_1 hx hb hX hbl hbA hS hi hL hl dL_law_371 dL_law_372 dL_law_373 dL_law_374 dL_law_375 ?_
  refine ld_2 hx hb hX hbl hbA hS hi hL hl dL_law_376 dL_law_377 dL_law_378 dL_law_379 dL_law_380 ?_
  refine n_Mi (As := [.int (xs (i + 1)), .int (xs (i + 2))]) (rest := [.int (fPup Z (xs (i + 1)) (xs (i + 2)))]) fx (ct_X1_pupil l dC dI cy cz o2 a2 Z G T K _ (xs (i + 1)) (xs (i + 2)) hI hR) fyX1_pupil tM_RL_43 rfl rfl ⟨Nat.le_of_ble_eq_true rfl, Nat.le_of_ble_eq_true rfl⟩ hK hP hD hS hA rfl hl.1 rfl (Nat.le_of_ble_eq_true rfl) dL_law_381 ⟨Nat.le_of_ble_eq_true rfl, Nat.le_of_ble_eq_true rfl⟩ (fun r2 Y9 G9 T9 K9 H locs ew hP hD hS => ?_)
  obtain ⟨er, ey, eR⟩ := ew
  try dsimp only at ey eR
  subst er
  rw [bw, mw_congr ey] at hP hD
  refine lv_icmp_eq (tgt := 1233) hx hb dL_law_384 (by decide) (fun _ => ?_) (fun h => absurd rfl h)
  exact kk _ _ _ _ _ _ _ (hI.pup (xs (i + 1)) (xs (i + 2))) eR hP hD hS
set_option maxHeartbeats 4000000 in
set_option maxRecDepth 100000 in
theorem lc_answer (fx : CallFix p m c cL_law 4 s args lw_ok RL) (hK : va_K (dC, dI) vwCl [(cy, .int), (cz, .boolean)] s) (hX : va_X b L xs s s.heap) (hbl : b < s.heap.size) (hA : ∀ q, s.heap.size ≤ q → A q) (hbA : ¬ A b) (hi : i + 5 ≤ L) (hL : L ≤ 2560) (hl : lv_has ls 4 [(0, .ref b), (1, .ref o), (2, .ref o2), (3, .int (nI i))]) (hI : Inv Z) (hR : MRel Z G T K) (hP : va_P (dC, dI) vwCl (bw cy cz o a Z X o2 a2 Z G T K) H) (hD : va_D A (bw cy cz o a Z X o2 a2 Z G T K)) (hS : va_S A s.heap H locs) (kk : ∀ (Z X : ST) (G T K : Nat → Nat) (H : Heap) (locs : List Loc), Inv Z → MRel Z G T K → va_P (dC, dI) vwCl (bw cy cz o a Z X o2 a2 Z G T K) H → va_D A (bw cy cz o a Z X o2 a2 Z G T K) → va_S A s.heap H locs → W p l e room_1 s m args below meth c H locs 25 3741 Q (F0 m 1233 ls [])) : W p l e room_1 s m args below meth c H locs 25 3741 Q (F0 m 389 ls []) := by
  obtain ⟨hx, hb, hml, hown, hts⟩ := id fx
  refine lv_aload_n hx hb dL_law_389 rfl (lv_at hl 1 rfl) ?_
  refine ld_1 hx hb hX hbl hbA hS hi hL hl dL_law_390 dL_law_391 dL_law_392 dL_law_393 dL_law_394 ?_
  refine ld_2 hx hb hX hbl hbA hS hi hL hl dL_law_395 dL_law_396 dL_law_397 dL_law_398 dL_law_399 ?_
  refine ld_3 hx hb hX hbl hbA hS hi hL hl dL_law_400 dL_law_401 dL_law_402 dL_law_403 dL_law_404 ?_
  refine l_Mi (As := [.int (xs (i + 1)), .int (xs (i + 2)), .int (xs (i + 3))]) (rest := []) fx (ct_X0_answer l dC dI cy o a Z X _ (xs (i + 1)) (xs (i + 2)) (xs (i + 3)) hI) fyX0_answer tM_RL_44 rfl rfl ⟨Nat.le_of_ble_eq_true rfl, Nat.le_of_ble_eq_true rfl⟩ hK hP hD hS hA rfl hl.1 rfl (Nat.le_of_ble_eq_true rfl) dL_law_405 ⟨Nat.le_of_ble_eq_true rfl, Nat.le_of_ble_eq_true rfl⟩ (fun r1 Z9 X9 H locs ew hP hD hS => ?_)
  obtain ⟨er, ez⟩ := ew
  try dsimp only at ez
  subst er
  rw [ez] at hP hD
  refine lv_aload_n hx hb dL_law_408 rfl (lv_at hl 2 rfl) ?_
  refine ld_1 hx hb hX hbl hbA hS hi hL hl dL_law_409 dL_law_410 dL_law_411 dL_law_412 dL_law_413 ?_
  refine ld_2 hx hb hX hbl hbA hS hi hL hl dL_law_414 dL_law_415 dL_law_416 dL_law_417 dL_law_418 ?_
  refine ld_3 hx hb hX hbl hbA hS hi hL hl dL_law_419 dL_law_420 dL_law_421 dL_law_422 dL_law_423 ?_
  refine n_Mi (As := [.int (xs (i + 1)), .int (xs (i + 2)), .int (xs (i + 3))]) (rest := [.int (fAns Z (xs (i + 1)) (xs (i + 2)) (xs (i + 3)))]) fx (ct_X1_answer l dC dI cy cz o2 a2 Z G T K _ (xs (i + 1)) (xs (i + 2)) (xs (i + 3)) hI hR) fyX1_answer tM_RL_47 rfl rfl ⟨Nat.le_of_ble_eq_true rfl, Nat.le_of_ble_eq_true rfl⟩ hK hP hD hS hA rfl hl.1 rfl (Nat.le_of_ble_eq_true rfl) dL_law_424 ⟨Nat.le_of_ble_eq_true rfl, Nat.le_of_ble_eq_true rfl⟩ (fun r2 Y9 G9 T9 K9 H locs ew hP hD hS => ?_)
  obtain ⟨er, ey, eR⟩ := ew
  try dsimp only at ey eR
  subst er
  rw [bw, mw_congr ey] at hP hD
  refine lv_icmp_eq (tgt := 1233) hx hb dL_law_427 (by decide) (fun _ => ?_) (fun h => absurd rfl h)
  exact kk _ _ _ _ _ _ _ (hI.ans (xs (i + 1)) (xs (i + 2)) (xs (i + 3))) eR hP hD hS
set_option maxHeartbeats 4000000 in
set_option maxRecDepth 100000 in
theorem lc_gap (fx : CallFix p m c cL_law 4 s args lw_ok RL) (hK : va_K (dC, dI) vwCl [(cy, .int), (cz, .boolean)] s) (hX : va_X b L xs s s.heap) (hbl : b < s.heap.size) (hA : ∀ q, s.heap.size ≤ q → A q) (hbA : ¬ A b) (hi : i + 5 ≤ L) (hL : L ≤ 2560) (hl : lv_has ls 4 [(0, .ref b), (1, .ref o), (2, .ref o2), (3, .int (nI i))]) (hI : Inv Z) (hR : MRel Z G T K) (hP : va_P (dC, dI) vwCl (bw cy cz o a Z X o2 a2 Z G T K) H) (hD : va_D A (bw cy cz o a Z X o2 a2 Z G T K)) (hS : va_S A s.heap H locs) (kk : ∀ (Z X : ST) (G T K : Nat → Nat) (H : Heap) (locs : List Loc), Inv Z → MRel Z G T K → va_P (dC, dI) vwCl (bw cy cz o a Z X o2 a2 Z G T K) H → va_D A (bw cy cz o a Z X o2 a2 Z G T K) → va_S A s.heap H locs → W p l e room_1 s m args below meth c H locs 25 3741 Q (F0 m 1233 ls [])) : W p l e room_1 s m args below meth c H locs 25 3741 Q (F0 m 432 ls []) := by
  obtain ⟨hx, hb, hml, hown, hts⟩ := id fx
  refine lv_aload_n hx hb dL_law_432 rfl (lv_at hl 1 rfl) ?_
  refine ld_1 hx hb hX hbl hbA hS hi hL hl dL_law_433 dL_law_434 dL_law_435 dL_law_436 dL_law_437 ?_
  refine ld_2 hx hb hX hbl hbA hS hi hL hl dL_law_438 dL_law_439 dL_law_440 dL_law_441 dL_law_442 ?_
  refine l_Mi (As := [.int (xs (i + 1)), .int (xs (i + 2))]) (rest := []) fx (ct_X0_gap l dC dI cy o a Z X _ (xs (i + 1)) (xs (i + 2)) hI) fyX0_gap tM_RL_48 rfl rfl ⟨Nat.le_of_ble_eq_true rfl, Nat.le_of_ble_eq_true rfl⟩ hK hP hD hS hA rfl hl.1 rfl (Nat.le_of_ble_eq_true rfl) dL_law_443 ⟨Nat.le_of_ble_eq_true rfl, Nat.le_of_ble_eq_true rfl⟩ (fun r1 Z9 X9 H locs ew hP hD hS => ?_)
  obtain ⟨er, ez⟩ := ew
  try dsimp only at ez
  subst er
  rw [ez] at hP hD
  refine lv_aload_n hx hb dL_law_446 rfl (lv_at hl 2 rfl) ?_
  refine ld_1 hx hb hX hbl hbA hS hi hL hl dL_law_447 dL_law_448 dL_law_449 dL_law_450 dL_law_451 ?_
  refine ld_2 hx hb hX hbl hbA hS hi hL hl dL_law_452 dL_law_453 dL_law_454 dL_law_455 dL_law_456 ?_
  refine n_Mi (As := [.int (xs (i + 1)), .int (xs (i + 2))]) (rest := [.int (fGap Z (xs (i + 1)) (xs (i + 2)))]) fx (ct_X1_gap l dC dI cy cz o2 a2 Z G T K _ (xs (i + 1)) (xs (i + 2)) hI hR) fyX1_gap tM_RL_51 rfl rfl ⟨Nat.le_of_ble_eq_true rfl, Nat.le_of_ble_eq_true rfl⟩ hK hP hD hS hA rfl hl.1 rfl (Nat.le_of_ble_eq_true rfl) dL_law_457 ⟨Nat.le_of_ble_eq_true rfl, Nat.le_of_ble_eq_true rfl⟩ (fun r2 Y9 G9 T9 K9 H locs ew hP hD hS => ?_)
  obtain ⟨er, ey, eR⟩ := ew
  try dsimp only at ey eR
  subst er
  rw [bw, mw_congr ey] at hP hD
  refine lv_icmp_eq (tgt := 1233) hx hb dL_law_460 (by decide) (fun _ => ?_) (fun h => absurd rfl h)
  exact kk _ _ _ _ _ _ _ (hI.gp (xs (i + 1)) (xs (i + 2))) eR hP hD hS
set_option maxHeartbeats 4000000 in
set_option maxRecDepth 100000 in
theorem lc_row (fx : CallFix p m c cL_law 4 s args lw_ok RL) (hK : va_K (dC, dI) vwCl [(cy, .int), (cz, .boolean)] s) (hX : va_X b L xs s s.heap) (hbl : b < s.heap.size) (hA : ∀ q, s.heap.size ≤ q → A q) (hbA : ¬ A b) (hi : i + 5 ≤ L) (hL : L ≤ 2560) (hl : lv_has ls 4 [(0, .ref b), (1, .ref o), (2, .ref o2), (3, .int (nI i))]) (hI : Inv Z) (hR : MRel Z G T K) (hP : va_P (dC, dI) vwCl (bw cy cz o a Z X o2 a2 Z G T K) H) (hD : va_D A (bw cy cz o a Z X o2 a2 Z G T K)) (hS : va_S A s.heap H locs) (kk : ∀ (Z X : ST) (G T K : Nat → Nat) (H : Heap) (locs : List Loc), Inv Z → MRel Z G T K → va_P (dC, dI) vwCl (bw cy cz o a Z X o2 a2 Z G T K) H → va_D A (bw cy cz o a Z X o2 a2 Z G T K) → va_S A s.heap H locs → W p l e room_1 s m args below meth c H locs 25 3741 Q (F0 m 1233 ls [])) : W p l e room_1 s m args below meth c H locs 25 3741 Q (F0 m 465 ls []) := by
  obtain ⟨hx, hb, hml, hown, hts⟩ := id fx
  refine lv_aload_n hx hb dL_law_465 rfl (lv_at hl 1 rfl) ?_
  refine ld_1 hx hb hX hbl hbA hS hi hL hl dL_law_466 dL_law_467 dL_law_468 dL_law_469 dL_law_470 ?_
  refine ld_2 hx hb hX hbl hbA hS hi hL hl dL_law_471 dL_law_472 dL_law_473 dL_law_474 dL_law_475 ?_
  refine lv_i2l hx hb dL_law_476 rfl ?_
  refine lv_bipush (v := nI 32) hx hb dL_law_477 (by decide) ?_
  refine lv_lshl hx hb dL_law_479 rfl ?_
  refine ld_3 hx hb hX hbl hbA hS hi hL hl dL_law_480 dL_law_481 dL_law_482 dL_law_483 dL_law_484 ?_
  refine lv_i2l hx hb dL_law_485 rfl ?_
  refine lv_ldc2 (v := 4294967295) hx hb hown (hts _ (ok_of tJ_RL_52 rfl)) dL_law_486 ?_
  refine lv_land hx hb dL_law_489 ?_
  refine lv_lor hx hb dL_law_490 ?_
  refine l_Mi (As := [.int (xs (i + 1)), .long ((((xs (i + 2)).toInt64 <<< ((nI 32).toInt64 &&& 63)) ||| ((xs (i + 3)).toInt64 &&& 4294967295)))]) (rest := []) fx (ct_X0_row l dC dI cy o a Z X _ (xs (i + 1)) ((((xs (i + 2)).toInt64 <<< ((nI 32).toInt64 &&& 63)) ||| ((xs (i + 3)).toInt64 &&& 4294967295))) hI) fyX0_row tM_RL_54 rfl rfl ⟨Nat.le_of_ble_eq_true rfl, Nat.le_of_ble_eq_true rfl⟩ hK hP hD hS hA rfl hl.1 rfl (Nat.le_of_ble_eq_true rfl) dL_law_491 ⟨Nat.le_of_ble_eq_true rfl, Nat.le_of_ble_eq_true rfl⟩ (fun r1 Z9 X9 H locs ew hP hD hS => ?_)
  obtain ⟨er, ez⟩ := ew
  try dsimp only at ez
  subst er
  rw [ez] at hP hD
  refine lv_aload_n hx hb dL_law_494 rfl (lv_at hl 2 rfl) ?_
  refine ld_1 hx hb hX hbl hbA hS hi hL hl dL_law_495 dL_law_496 dL_law_497 dL_law_498 dL_law_499 ?_
  refine ld_2 hx hb hX hbl hbA hS hi hL hl dL_law_500 dL_law_501 dL_law_502 dL_law_503 dL_law_504 ?_
  refine lv_i2l hx hb dL_law_505 rfl ?_
  refine lv_bipush (v := nI 32) hx hb dL_law_506 (by decide) ?_
  refine lv_lshl hx hb dL_law_508 rfl ?_
  refine ld_3 hx hb hX hbl hbA hS hi hL hl dL_law_509 dL_law_510 dL_law_511 dL_law_512 dL_law_513 ?_
  refine lv_i2l hx hb dL_law_514 rfl ?_
  refine lv_ldc2 (v := 4294967295) hx hb hown (hts _ (ok_of tJ_RL_52 rfl)) dL_law_515 ?_
  refine lv_land hx hb dL_law_518 ?_
  refine lv_lor hx hb dL_law_519 ?_
  refine n_Mi (As := [.int (xs (i + 1)), .long ((((xs (i + 2)).toInt64 <<< ((nI 32).toInt64 &&& 63)) ||| ((xs (i + 3)).toInt64 &&& 4294967295)))]) (rest := [.int (fRow Z (xs (i + 1)) ((((xs (i + 2)).toInt64 <<< ((nI 32).toInt64 &&& 63)) ||| ((xs (i + 3)).toInt64 &&& 4294967295))))]) fx (ct_X1_row l dC dI cy cz o2 a2 Z G T K _ (xs (i + 1)) ((((xs (i + 2)).toInt64 <<< ((nI 32).toInt64 &&& 63)) ||| ((xs (i + 3)).toInt64 &&& 4294967295))) hI hR) fyX1_row tM_RL_58 rfl rfl ⟨Nat.le_of_ble_eq_true rfl, Nat.le_of_ble_eq_true rfl⟩ hK hP hD hS hA rfl hl.1 rfl (Nat.le_of_ble_eq_true rfl) dL_law_520 ⟨Nat.le_of_ble_eq_true rfl, Nat.le_of_ble_eq_true rfl⟩ (fun r2 Y9 G9 T9 K9 H locs ew hP hD hS => ?_)
  obtain ⟨er, ey, eR⟩ := ew
  try dsimp only at ey eR
  subst er
  rw [bw, mw_congr ey] at hP hD
  refine lv_icmp_eq (tgt := 1233) hx hb dL_law_523 (by decide) (fun _ => ?_) (fun h => absurd rfl h)
  exact kk _ _ _ _ _ _ _ (hI.rw (xs (i + 1)) ((((xs (i + 2)).toInt64 <<< ((nI 32).toInt64 &&& 63)) ||| ((xs (i + 3)).toInt64 &&& 4294967295)))) eR hP hD hS
set_option maxHeartbeats 4000000 in
set_option maxRecDepth 100000 in
theorem lc_mark (fx : CallFix p m c cL_law 4 s args lw_ok RL) (hK : va_K (dC, dI) vwCl [(cy, .int), (cz, .boolean)] s) (hX : va_X b L xs s s.heap) (hbl : b < s.heap.size) (hA : ∀ q, s.heap.size ≤ q → A q) (hbA : ¬ A b) (hi : i + 5 ≤ L) (hL : L ≤ 2560) (hl : lv_has ls 4 [(0, .ref b), (1, .ref o), (2, .ref o2), (3, .int (nI i))]) (hI : Inv Z) (hR : MRel Z G T K) (hP : va_P (dC, dI) vwCl (bw cy cz o a Z X o2 a2 Z G T K) H) (hD : va_D A (bw cy cz o a Z X o2 a2 Z G T K)) (hS : va_S A s.heap H locs) (kk : ∀ (Z X : ST) (G T K : Nat → Nat) (H : Heap) (locs : List Loc), Inv Z → MRel Z G T K → va_P (dC, dI) vwCl (bw cy cz o a Z X o2 a2 Z G T K) H → va_D A (bw cy cz o a Z X o2 a2 Z G T K) → va_S A s.heap H locs → W p l e room_1 s m args below meth c H locs 25 3741 Q (F0 m 1233 ls [])) : W p l e room_1 s m args below meth c H locs 25 3741 Q (F0 m 528 ls []) := by
  obtain ⟨hx, hb, hml, hown, hts⟩ := id fx
  refine lv_aload_n hx hb dL_law_528 rfl (lv_at hl 1 rfl) ?_
  refine ld_1 hx hb hX hbl hbA hS hi hL hl dL_law_529 dL_law_530 dL_law_531 dL_law_532 dL_law_533 ?_
  refine ld_2 hx hb hX hbl hbA hS hi hL hl dL_law_534 dL_law_535 dL_law_536 dL_law_537 dL_law_538 ?_
  refine l_Ri (As := [.int (xs (i + 1)), .int (xs (i + 2))]) (rest := []) fx (ct_X0_mark l dC dI cy o a Z X (xs (i + 1)) (xs (i + 2)) hI) fyX0_mark tM_RL_59 rfl rfl ⟨Nat.le_of_ble_eq_true rfl, Nat.le_of_ble_eq_true rfl⟩ hK hP rfl hl.1 rfl (Nat.le_of_ble_eq_true rfl) dL_law_539 ⟨Nat.le_of_ble_eq_true rfl, Nat.le_of_ble_eq_true rfl⟩ (fun r1 er => ?_)
  subst er
  refine lv_aload_n hx hb dL_law_542 rfl (lv_at hl 2 rfl) ?_
  refine ld_1 hx hb hX hbl hbA hS hi hL hl dL_law_543 dL_law_544 dL_law_545 dL_law_546 dL_law_547 ?_
  refine ld_2 hx hb hX hbl hbA hS hi hL hl dL_law_548 dL_law_549 dL_law_550 dL_law_551 dL_law_552 ?_
  refine n_Ri (As := [.int (xs (i + 1)), .int (xs (i + 2))]) (rest := [.int (fMark Z (xs (i + 1)) (xs (i + 2)))]) fx (ct_X1_mark l dC dI cy cz o2 a2 Z G T K (xs (i + 1)) (xs (i + 2)) hI hR) fyX1_mark tM_RL_62 rfl rfl ⟨Nat.le_of_ble_eq_true rfl, Nat.le_of_ble_eq_true rfl⟩ hK hP rfl hl.1 rfl (Nat.le_of_ble_eq_true rfl) dL_law_553 ⟨Nat.le_of_ble_eq_true rfl, Nat.le_of_ble_eq_true rfl⟩ (fun r2 er => ?_)
  subst er
  refine lv_icmp_eq (tgt := 1233) hx hb dL_law_556 (by decide) (fun _ => ?_) (fun h => absurd rfl h)
  exact kk _ _ _ _ _ _ _ hI hR hP hD hS
set_option maxHeartbeats 4000000 in
set_option maxRecDepth 100000 in
theorem lc_come (fx : CallFix p m c cL_law 4 s args lw_ok RL) (hK : va_K (dC, dI) vwCl [(cy, .int), (cz, .boolean)] s) (hX : va_X b L xs s s.heap) (hbl : b < s.heap.size) (hA : ∀ q, s.heap.size ≤ q → A q) (hbA : ¬ A b) (hi : i + 5 ≤ L) (hL : L ≤ 2560) (hl : lv_has ls 4 [(0, .ref b), (1, .ref o), (2, .ref o2), (3, .int (nI i))]) (hI : Inv Z) (hR : MRel Z G T K) (hP : va_P (dC, dI) vwCl (bw cy cz o a Z X o2 a2 Z G T K) H) (hD : va_D A (bw cy cz o a Z X o2 a2 Z G T K)) (hS : va_S A s.heap H locs) (kk : ∀ (Z X : ST) (G T K : Nat → Nat) (H : Heap) (locs : List Loc), Inv Z → MRel Z G T K → va_P (dC, dI) vwCl (bw cy cz o a Z X o2 a2 Z G T K) H → va_D A (bw cy cz o a Z X o2 a2 Z G T K) → va_S A s.heap H locs → W p l e room_1 s m args below meth c H locs 25 3741 Q (F0 m 1233 ls [])) : W p l e room_1 s m args below meth c H locs 25 3741 Q (F0 m 561 ls []) := by
  obtain ⟨hx, hb, hml, hown, hts⟩ := id fx
  refine lv_aload_n hx hb dL_law_561 rfl (lv_at hl 1 rfl) ?_
  refine ld_1 hx hb hX hbl hbA hS hi hL hl dL_law_562 dL_law_563 dL_law_564 dL_law_565 dL_law_566 ?_
  refine ld_2 hx hb hX hbl hbA hS hi hL hl dL_law_567 dL_law_568 dL_law_569 dL_law_570 dL_law_571 ?_
  refine l_Ri (As := [.int (xs (i + 1)), .int (xs (i + 2))]) (rest := []) fx (ct_X0_come l dC dI cy o a Z X (xs (i + 1)) (xs (i + 2)) hI) fyX0_come tM_RL_63 rfl rfl ⟨Nat.le_of_ble_eq_true rfl, Nat.le_of_ble_eq_true rfl⟩ hK hP rfl hl.1 rfl (Nat.le_of_ble_eq_true rfl) dL_law_572 ⟨Nat.le_of_ble_eq_true rfl, Nat.le_of_ble_eq_true rfl⟩ (fun r1 er => ?_)
  subst er
  refine lv_aload_n hx hb dL_law_575 rfl (lv_at hl 2 rfl) ?_
  refine ld_1 hx hb hX hbl hbA hS hi hL hl dL_law_576 dL_law_577 dL_law_578 dL_law_579 dL_law_580 ?_
  refine ld_2 hx hb hX hbl hbA hS hi hL hl dL_law_581 dL_law_582 dL_law_583 dL_law_584 dL_law_585 ?_
  refine n_Ri (As := [.int (xs (i + 1)), .int (xs (i + 2))]) (rest := [.int (fCome Z (xs (i + 1)) (xs (i + 2)))]) fx (ct_X1_come l dC dI cy cz o2 a2 Z G T K (xs (i + 1)) (xs (i + 2)) hI hR) fyX1_come tM_RL_66 rfl rfl ⟨Nat.le_of_ble_eq_true rfl, Nat.le_of_ble_eq_true rfl⟩ hK hP rfl hl.1 rfl (Nat.le_of_ble_eq_true rfl) dL_law_586 ⟨Nat.le_of_ble_eq_true rfl, Nat.le_of_ble_eq_true rfl⟩ (fun r2 er => ?_)
  subst er
  refine lv_icmp_eq (tgt := 1233) hx hb dL_law_589 (by decide) (fun _ => ?_) (fun h => absurd rfl h)
  exact kk _ _ _ _ _ _ _ hI hR hP hD hS
set_option maxHeartbeats 4000000 in
set_option maxRecDepth 100000 in
theorem lc_total (fx : CallFix p m c cL_law 4 s args lw_ok RL) (hK : va_K (dC, dI) vwCl [(cy, .int), (cz, .boolean)] s) (hX : va_X b L xs s s.heap) (hbl : b < s.heap.size) (hA : ∀ q, s.heap.size ≤ q → A q) (hbA : ¬ A b) (hi : i + 5 ≤ L) (hL : L ≤ 2560) (hl : lv_has ls 4 [(0, .ref b), (1, .ref o), (2, .ref o2), (3, .int (nI i))]) (hI : Inv Z) (hR : MRel Z G T K) (hP : va_P (dC, dI) vwCl (bw cy cz o a Z X o2 a2 Z G T K) H) (hD : va_D A (bw cy cz o a Z X o2 a2 Z G T K)) (hS : va_S A s.heap H locs) (kk : ∀ (Z X : ST) (G T K : Nat → Nat) (H : Heap) (locs : List Loc), Inv Z → MRel Z G T K → va_P (dC, dI) vwCl (bw cy cz o a Z X o2 a2 Z G T K) H → va_D A (bw cy cz o a Z X o2 a2 Z G T K) → va_S A s.heap H locs → W p l e room_1 s m args below meth c H locs 25 3741 Q (F0 m 1233 ls [])) : W p l e room_1 s m args below meth c H locs 25 3741 Q (F0 m 594 ls []) := by
  obtain ⟨hx, hb, hml, hown, hts⟩ := id fx
  refine lv_aload_n hx hb dL_law_594 rfl (lv_at hl 1 rfl) ?_
  refine ld_1 hx hb hX hbl hbA hS hi hL hl dL_law_595 dL_law_596 dL_law_597 dL_law_598 dL_law_599 ?_
  refine l_Ri (As := [.int (xs (i + 1))]) (rest := []) fx (ct_X0_total l dC dI cy o a Z X (xs (i + 1)) hI) fyX0_total tM_RL_67 rfl rfl ⟨Nat.le_of_ble_eq_true rfl, Nat.le_of_ble_eq_true rfl⟩ hK hP rfl hl.1 rfl (Nat.le_of_ble_eq_true rfl) dL_law_600 ⟨Nat.le_of_ble_eq_true rfl, Nat.le_of_ble_eq_true rfl⟩ (fun r1 er => ?_)
  subst er
  refine lv_aload_n hx hb dL_law_603 rfl (lv_at hl 2 rfl) ?_
  refine ld_1 hx hb hX hbl hbA hS hi hL hl dL_law_604 dL_law_605 dL_law_606 dL_law_607 dL_law_608 ?_
  refine n_Ri (As := [.int (xs (i + 1))]) (rest := [.int (fTot Z (xs (i + 1)))]) fx (ct_X1_total l dC dI cy cz o2 a2 Z G T K (xs (i + 1)) hI hR) fyX1_total tM_RL_71 rfl rfl ⟨Nat.le_of_ble_eq_true rfl, Nat.le_of_ble_eq_true rfl⟩ hK hP rfl hl.1 rfl (Nat.le_of_ble_eq_true rfl) dL_law_609 ⟨Nat.le_of_ble_eq_true rfl, Nat.le_of_ble_eq_true rfl⟩ (fun r2 er => ?_)
  subst er
  refine lv_icmp_eq (tgt := 1233) hx hb dL_law_612 (by decide) (fun _ => ?_) (fun h => absurd rfl h)
  exact kk _ _ _ _ _ _ _ hI hR hP hD hS
set_option maxHeartbeats 4000000 in
set_option maxRecDepth 100000 in
theorem lc_easy (fx : CallFix p m c cL_law 4 s args lw_ok RL) (hK : va_K (dC, dI) vwCl [(cy, .int), (cz, .boolean)] s) (hX : va_X b L xs s s.heap) (hbl : b < s.heap.size) (hA : ∀ q, s.heap.size ≤ q → A q) (hbA : ¬ A b) (hi : i + 5 ≤ L) (hL : L ≤ 2560) (hl : lv_has ls 4 [(0, .ref b), (1, .ref o), (2, .ref o2), (3, .int (nI i))]) (hI : Inv Z) (hR : MRel Z G T K) (hP : va_P (dC, dI) vwCl (bw cy cz o a Z X o2 a2 Z G T K) H) (hD : va_D A (bw cy cz o a Z X o2 a2 Z G T K)) (hS : va_S A s.heap H locs) (kk : ∀ (Z X : ST) (G T K : Nat → Nat) (H : Heap) (locs : List Loc), Inv Z → MRel Z G T K → va_P (dC, dI) vwCl (bw cy cz o a Z X o2 a2 Z G T K) H → va_D A (bw cy cz o a Z X o2 a2 Z G T K) → va_S A s.heap H locs → W p l e room_1 s m args below meth c H locs 25 3741 Q (F0 m 1233 ls [])) : W p l e room_1 s m args below meth c H locs 25 3741 Q (F0 m 617 ls []) := by
  obtain ⟨hx, hb, hml, hown, hts⟩ := id fx
  refine lv_aload_n hx hb dL_law_617 rfl (lv_at hl 1 rfl) ?_
  refine ld_1 hx hb hX hbl hbA hS hi hL hl dL_law_618 dL_law_619 dL_law_620 dL_law_621 dL_law_622 ?_
  refine ld_2 hx hb hX hbl hbA hS hi hL hl dL_law_623 dL_law_624 dL_law_625 dL_law_626 dL_law_627 ?_
  refine l_Rl (As := [.int (xs (i + 1)), .int (xs (i + 2))]) (rest := []) fx (ct_X0_easy l dC dI cy o a Z X (xs (i + 1)) (xs (i + 2)) hI) fyX0_easy tM_RL_72 rfl rfl ⟨Nat.le_of_ble_eq_true rfl, Nat.le_of_ble_eq_true rfl⟩ hK hP rfl hl.1 rfl (Nat.le_of_ble_eq_true rfl) dL_law_628 ⟨Nat.le_of_ble_eq_true rfl, Nat.le_of_ble_eq_true rfl⟩ (fun r1 er => ?_)
  subst er
  refine lv_aload_n hx hb dL_law_631 rfl (lv_at hl 2 rfl) ?_
  refine ld_1 hx hb hX hbl hbA hS hi hL hl dL_law_632 dL_law_633 dL_law_634 dL_law_635 dL_law_636 ?_
  refine ld_2 hx hb hX hbl hbA hS hi hL hl dL_law_637 dL_law_638 dL_law_639 dL_law_640 dL_law_641 ?_
  refine n_Rl (As := [.int (xs (i + 1)), .int (xs (i + 2))]) (rest := [.long (fEas Z (xs (i + 1)) (xs (i + 2)))]) fx (ct_X1_easy l dC dI cy cz o2 a2 Z G T K (xs (i + 1)) (xs (i + 2)) hI hR) fyX1_easy tM_RL_76 rfl rfl ⟨Nat.le_of_ble_eq_true rfl, Nat.le_of_ble_eq_true rfl⟩ hK hP rfl hl.1 rfl (Nat.le_of_ble_eq_true rfl) dL_law_642 ⟨Nat.le_of_ble_eq_true rfl, Nat.le_of_ble_eq_true rfl⟩ (fun r2 er => ?_)
  subst er
  refine x_leq (tgt := 1233) hx hb dL_law_645 dL_law_646 (by decide) (fun _ => ?_) (fun h => absurd rfl h)
  exact kk _ _ _ _ _ _ _ hI hR hP hD hS
set_option maxHeartbeats 4000000 in
set_option maxRecDepth 100000 in
theorem lc_sharp (fx : CallFix p m c cL_law 4 s args lw_ok RL) (hK : va_K (dC, dI) vwCl [(cy, .int), (cz, .boolean)] s) (hX : va_X b L xs s s.heap) (hbl : b < s.heap.size) (hA : ∀ q, s.heap.size ≤ q → A q) (hbA : ¬ A b) (hi : i + 5 ≤ L) (hL : L ≤ 2560) (hl : lv_has ls 4 [(0, .ref b), (1, .ref o), (2, .ref o2), (3, .int (nI i))]) (hI : Inv Z) (hR : MRel Z G T K) (hP : va_P (dC, dI) vwCl (bw cy cz o a Z X o2 a2 Z G T K) H) (hD : va_D A (bw cy cz o a Z X o2 a2 Z G T K)) (hS : va_S A s.heap H locs) (kk : ∀ (Z X : ST) (G T K : Nat → Nat) (H : Heap) (locs : List Loc), Inv Z → MRel Z G T K → va_P (dC, dI) vwCl (bw cy cz o a Z X o2 a2 Z G T K) H → va_D A (bw cy cz o a Z X o2 a2 Z G T K) → va_S A s.heap H locs → W p l e room_1 s m args below meth c H locs 25 3741 Q (F0 m 1233 ls [])) : W p l e room_1 s m args below meth c H locs 25 3741 Q (F0 m 651 ls []) := by
  obtain ⟨hx, hb, hml, hown, hts⟩ := id fx
  refine lv_aload_n hx hb dL_law_651 rfl (lv_at hl 1 rfl) ?_
  refine ld_1 hx hb hX hbl hbA hS hi hL hl dL_law_652 dL_law_653 dL_law_654 dL_law_655 dL_law_656 ?_
  refine l_Rl (As := [.int (xs (i + 1))]) (rest := []) fx (ct_X0_sharp l dC dI cy o a Z X (xs (i + 1)) hI) fyX0_sharp tM_RL_77 rfl rfl ⟨Nat.le_of_ble_eq_true rfl, Nat.le_of_ble_eq_true rfl⟩ hK hP rfl hl.1 rfl (Nat.le_of_ble_eq_true rfl) dL_law_657 ⟨Nat.le_of_ble_eq_true rfl, Nat.le_of_ble_eq_true rfl⟩ (fun r1 er => ?_)
  subst er
  refine lv_aload_n hx hb dL_law_660 rfl (lv_at hl 2 rfl) ?_
  refine ld_1 hx hb hX hbl hbA hS hi hL hl dL_law_661 dL_law_662 dL_law_663 dL_law_664 dL_law_665 ?_
  refine n_Rl (As := [.int (xs (i + 1))]) (rest := [.long (fShp Z (xs (i + 1)))]) fx (ct_X1_sharp l dC dI cy cz o2 a2 Z G T K (xs (i + 1)) hI hR) fyX1_sharp tM_RL_81 rfl rfl ⟨Nat.le_of_ble_eq_true rfl, Nat.le_of_ble_eq_true rfl⟩ hK hP rfl hl.1 rfl (Nat.le_of_ble_eq_true rfl) dL_law_666 ⟨Nat.le_of_ble_eq_true rfl, Nat.le_of_ble_eq_true rfl⟩ (fun r2 er => ?_)
  subst er
  refine x_leq (tgt := 1233) hx hb dL_law_669 dL_law_670 (by decide) (fun _ => ?_) (fun h => absurd rfl h)
  exact kk _ _ _ _ _ _ _ hI hR hP hD hS
set_option maxHeartbeats 4000000 in
set_option maxRecDepth 100000 in
theorem lc_leaky (fx : CallFix p m c cL_law 4 s args lw_ok RL) (hK : va_K (dC, dI) vwCl [(cy, .int), (cz, .boolean)] s) (hX : va_X b L xs s s.heap) (hbl : b < s.heap.size) (hA : ∀ q, s.heap.size ≤ q → A q) (hbA : ¬ A b) (hi : i + 5 ≤ L) (hL : L ≤ 2560) (hl : lv_has ls 4 [(0, .ref b), (1, .ref o), (2, .ref o2), (3, .int (nI i))]) (hI : Inv Z) (hR : MRel Z G T K) (hP : va_P (dC, dI) vwCl (bw cy cz o a Z X o2 a2 Z G T K) H) (hD : va_D A (bw cy cz o a Z X o2 a2 Z G T K)) (hS : va_S A s.heap H locs) (kk : ∀ (Z X : ST) (G T K : Nat → Nat) (H : Heap) (locs : List Loc), Inv Z → MRel Z G T K → va_P (dC, dI) vwCl (bw cy cz o a Z X o2 a2 Z G T K) H → va_D A (bw cy cz o a Z X o2 a2 Z G T K) → va_S A s.heap H locs → W p l e room_1 s m args below meth c H locs 25 3741 Q (F0 m 1233 ls [])) : W p l e room_1 s m args below meth c H locs 25 3741 Q (F0 m 675 ls []) := by
  obtain ⟨hx, hb, hml, hown, hts⟩ := id fx
  refine lv_aload_n hx hb dL_law_675 rfl (lv_at hl 1 rfl) ?_
  refine ld_1 hx hb hX hbl hbA hS hi hL hl dL_law_676 dL_law_677 dL_law_678 dL_law_679 dL_law_680 ?_
  refine ld_2 hx hb hX hbl hbA hS hi hL hl dL_law_681 dL_law_682 dL_law_683 dL_law_684 dL_law_685 ?_
  refine ld_3 hx hb hX hbl hbA hS hi hL hl dL_law_686 dL_law_687 dL_law_688 dL_law_689 dL_law_690 ?_
  refine l_Mi (As := [.int (xs (i + 1)), .int (xs (i + 2)), .int (xs (i + 3))]) (rest := []) fx (ct_X0_leaky l dC dI cy o a Z X _ (xs (i + 1)) (xs (i + 2)) (xs (i + 3)) hI) fyX0_leaky tM_RL_82 rfl rfl ⟨Nat.le_of_ble_eq_true rfl, Nat.le_of_ble_eq_true rfl⟩ hK hP hD hS hA rfl hl.1 rfl (Nat.le_of_ble_eq_true rfl) dL_law_691 ⟨Nat.le_of_ble_eq_true rfl, Nat.le_of_ble_eq_true rfl⟩ (fun r1 Z9 X9 H locs ew hP hD hS => ?_)
  obtain ⟨er, ez⟩ := ew
  try dsimp only at ez
  subst er
  rw [ez] at hP hD
  refine lv_aload_n hx hb dL_law_694 rfl (lv_at hl 2 rfl) ?_
  refine ld_1 hx hb hX hbl hbA hS hi hL hl dL_law_695 dL_law_696 dL_law_697 dL_law_698 dL_law_699 ?_
  refine ld_2 hx hb hX hbl hbA hS hi hL hl dL_law_700 dL_law_701 dL_law_702 dL_law_703 dL_law_704 ?_
  refine ld_3 hx hb hX hbl hbA hS hi hL hl dL_law_705 dL_law_706 dL_law_707 dL_law_708 dL_law_709 ?_
  refine n_Ri (As := [.int (xs (i + 1)), .int (xs (i + 2)), .int (xs (i + 3))]) (rest := [.int (fLky Z (xs (i + 1)) (xs (i + 2)) (xs (i + 3)))]) fx (ct_X1_leaky l dC dI cy cz o2 a2 Z G T K (xs (i + 1)) (xs (i + 2)) (xs (i + 3)) hI hR) fyX1_leaky tM_RL_85 rfl rfl ⟨Nat.le_of_ble_eq_true rfl, Nat.le_of_ble_eq_true rfl⟩ hK hP rfl hl.1 rfl (Nat.le_of_ble_eq_true rfl) dL_law_710 ⟨Nat.le_of_ble_eq_true rfl, Nat.le_of_ble_eq_true rfl⟩ (fun r2 er => ?_)
  subst er
  refine lv_icmp_eq (tgt := 1233) hx hb dL_law_713 (by decide) (fun _ => ?_) (fun h => absurd rfl h)
  exact kk _ _ _ _ _ _ _ hI hR hP hD hS
set_option maxHeartbeats 4000000 in
set_option maxRecDepth 100000 in
theorem lc_leak (fx : CallFix p m c cL_law 4 s args lw_ok RL) (hK : va_K (dC, dI) vwCl [(cy, .int), (cz, .boolean)] s) (hX : va_X b L xs s s.heap) (hbl : b < s.heap.size) (hA : ∀ q, s.heap.size ≤ q → A q) (hbA : ¬ A b) (hi : i + 5 ≤ L) (hL : L ≤ 2560) (hl : lv_has ls 4 [(0, .ref b), (1, .ref o), (2, .ref o2), (3, .int (nI i))]) (hI : Inv Z) (hR : MRel Z G T K) (hP : va_P (dC, dI) vwCl (bw cy cz o a Z X o2 a2 Z G T K) H) (hD : va_D A (bw cy cz o a Z X o2 a2 Z G T K)) (hS : va_S A s.heap H locs) (kk : ∀ (Z X : ST) (G T K : Nat → Nat) (H : Heap) (locs : List Loc), Inv Z → MRel Z G T K → va_P (dC, dI) vwCl (bw cy cz o a Z X o2 a2 Z G T K) H → va_D A (bw cy cz o a Z X o2 a2 Z G T K) → va_S A s.heap H locs → W p l e room_1 s m args below meth c H locs 25 3741 Q (F0 m 1233 ls [])) : W p l e room_1 s m args below meth c H locs 25 3741 Q (F0 m 718 ls []) := by
  obtain ⟨hx, hb, hml, hown, hts⟩ := id fx
  refine lv_aload_n hx hb dL_law_718 rfl (lv_at hl 1 rfl) ?_
  refine ld_1 hx hb hX hbl hbA hS hi hL hl dL_law_719 dL_law_720 dL_law_721 dL_law_722 dL_law_723 ?_
  refine ld_2 hx hb hX hbl hbA hS hi hL hl dL_law_724 dL_law_725 dL_law_726 dL_law_727 dL_law_728 ?_
  refine l_Mi (As := [.int (xs (i + 1)), .int (xs (i + 2))]) (rest := []) fx (ct_X0_leak l dC dI cy o a Z X _ (xs (i + 1)) (xs (i + 2)) hI) fyX0_leak tM_RL_86 rfl rfl ⟨Nat.le_of_ble_eq_true rfl, Nat.le_of_ble_eq_true rfl⟩ hK hP hD hS hA rfl hl.1 rfl (Nat.le_of_ble_eq_true rfl) dL_law_729 ⟨Nat.le_of_ble_eq_true rfl, Nat.le_of_ble_eq_true rfl⟩ (fun r1 Z9 X9 H locs ew hP hD hS => ?_)
  obtain ⟨er, ez⟩ := ew
  try dsimp only at ez
  subst er
  rw [ez] at hP hD
  refine lv_aload_n hx hb dL_law_732 rfl (lv_at hl 2 rfl) ?_
  refine ld_1 hx hb hX hbl hbA hS hi hL hl dL_law_733 dL_law_734 dL_law_735 dL_law_736 dL_law_737 ?_
  refine ld_2 hx hb hX hbl hbA hS hi hL hl dL_law_738 dL_law_739 dL_law_740 dL_law_741 dL_law_742 ?_
  refine n_Ri (As := [.int (xs (i + 1)), .int (xs (i + 2))]) (rest := [.int (fLek Z (xs (i + 1)) (xs (i + 2)))]) fx (ct_X1_leak l dC dI cy cz o2 a2 Z G T K (xs (i + 1)) (xs (i + 2)) hI hR) fyX1_leak tM_RL_89 rfl rfl ⟨Nat.le_of_ble_eq_true rfl, Nat.le_of_ble_eq_true rfl⟩ hK hP rfl hl.1 rfl (Nat.le_of_ble_eq_true rfl) dL_law_743 ⟨Nat.le_of_ble_eq_true rfl, Nat.le_of_ble_eq_true rfl⟩ (fun r2 er => ?_)
  subst er
  refine lv_icmp_eq (tgt := 1233) hx hb dL_law_746 (by decide) (fun _ => ?_) (fun h => absurd rfl h)
  exact kk _ _ _ _ _ _ _ hI hR hP hD hS
set_option maxHeartbeats 4000000 in
set_option maxRecDepth 100000 in
theorem lc_shared (fx : CallFix p m c cL_law 4 s args lw_ok RL) (hK : va_K (dC, dI) vwCl [(cy, .int), (cz, .boolean)] s) (hX : va_X b L xs s s.heap) (hbl : b < s.heap.size) (hA : ∀ q, s.heap.size ≤ q → A q) (hbA : ¬ A b) (hi : i + 5 ≤ L) (hL : L ≤ 2560) (hl : lv_has ls 4 [(0, .ref b), (1, .ref o), (2, .ref o2), (3, .int (nI i))]) (hI : Inv Z) (hR : MRel Z G T K) (hP : va_P (dC, dI) vwCl (bw cy cz o a Z X o2 a2 Z G T K) H) (hD : va_D A (bw cy cz o a Z X o2 a2 Z G T K)) (hS : va_S A s.heap H locs) (kk : ∀ (Z X : ST) (G T K : Nat → Nat) (H : Heap) (locs : List Loc), Inv Z → MRel Z G T K → va_P (dC, dI) vwCl (bw cy cz o a Z X o2 a2 Z G T K) H → va_D A (bw cy cz o a Z X o2 a2 Z G T K) → va_S A s.heap H locs → W p l e room_1 s m args below meth c H locs 25 3741 Q (F0 m 1233 ls [])) : W p l e room_1 s m args below meth c H locs 25 3741 Q (F0 m 751 ls []) := by
  obtain ⟨hx, hb, hml, hown, hts⟩ := id fx
  refine lv_aload_n hx hb dL_law_751 rfl (lv_at hl 1 rfl) ?_
  refine ld_1 hx hb hX hbl hbA hS hi hL hl dL_law_752 dL_law_753 dL_law_754 dL_law_755 dL_law_756 ?_
  refine ld_2 hx hb hX hbl hbA hS hi hL hl dL_law_757 dL_law_758 dL_law_759 dL_law_760 dL_law_761 ?_
  refine l_Ri (As := [.int (xs (i + 1)), .int (xs (i + 2))]) (rest := []) fx (ct_X0_shared l dC dI cy o a Z X (xs (i + 1)) (xs (i + 2)) hI) fyX0_shared tM_RL_90 rfl rfl ⟨Nat.le_of_ble_eq_true rfl, Nat.le_of_ble_eq_true rfl⟩ hK hP rfl hl.1 rfl (Nat.le_of_ble_eq_true rfl) dL_law_762 ⟨Nat.le_of_ble_eq_true rfl, Nat.le_of_ble_eq_true rfl⟩ (fun r1 er => ?_)
  subst er
  refine lv_aload_n hx hb dL_law_765 rfl (lv_at hl 2 rfl) ?_
  refine ld_1 hx hb hX hbl hbA hS hi hL hl dL_law_766 dL_law_767 dL_law_768 dL_law_769 dL_law_770 ?_
  refine ld_2 hx hb hX hbl hbA hS hi hL hl dL_law_771 dL_law_772 dL_law_773 dL_law_774 dL_law_775 ?_
  refine n_Ri (As := [.int (xs (i + 1)), .int (xs (i + 2))]) (rest := [.int (fShd Z (xs (i + 1)) (xs (i + 2)))]) fx (ct_X1_shared l dC dI cy cz o2 a2 Z G T K (xs (i + 1)) (xs (i + 2)) hI hR) fyX1_shared tM_RL_93 rfl rfl ⟨Nat.le_of_ble_eq_true rfl, Nat.le_of_ble_eq_true rfl⟩ hK hP rfl hl.1 rfl (Nat.le_of_ble_eq_true rfl) dL_law_776 ⟨Nat.le_of_ble_eq_true rfl, Nat.le_of_ble_eq_true rfl⟩ (fun r2 er => ?_)
  subst er
  refine lv_icmp_eq (tgt := 1233) hx hb dL_law_779 (by decide) (fun _ => ?_) (fun h => absurd rfl h)
  exact kk _ _ _ _ _ _ _ hI hR hP hD hS
set_option maxHeartbeats 4000000 in
set_option maxRecDepth 100000 in
theorem lc_sum (fx : CallFix p m c cL_law 4 s args lw_ok RL) (hK : va_K (dC, dI) vwCl [(cy, .int), (cz, .boolean)] s) (hX : va_X b L xs s s.heap) (hbl : b < s.heap.size) (hA : ∀ q, s.heap.size ≤ q → A q) (hbA : ¬ A b) (hi : i + 5 ≤ L) (hL : L ≤ 2560) (hl : lv_has ls 4 [(0, .ref b), (1, .ref o), (2, .ref o2), (3, .int (nI i))]) (hI : Inv Z) (hR : MRel Z G T K) (hP : va_P (dC, dI) vwCl (bw cy cz o a Z X o2 a2 Z G T K) H) (hD : va_D A (bw cy cz o a Z X o2 a2 Z G T K)) (hS : va_S A s.heap H locs) (kk : ∀ (Z X : ST) (G T K : Nat → Nat) (H : Heap) (locs : List Loc), Inv Z → MRel Z G T K → va_P (dC, dI) vwCl (bw cy cz o a Z X o2 a2 Z G T K) H → va_D A (bw cy cz o a Z X o2 a2 Z G T K) → va_S A s.heap H locs → W p l e room_1 s m args below meth c H locs 25 3741 Q (F0 m 1233 ls [])) : W p l e room_1 s m args below meth c H locs 25 3741 Q (F0 m 784 ls []) := by
  obtain ⟨hx, hb, hml, hown, hts⟩ := id fx
  refine lv_aload_n hx hb dL_law_784 rfl (lv_at hl 1 rfl) ?_
  refine ld_1 hx hb hX hbl hbA hS hi hL hl dL_law_785 dL_law_786 dL_law_787 dL_law_788 dL_law_789 ?_
  refine ld_2 hx hb hX hbl hbA hS hi hL hl dL_law_790 dL_law_791 dL_law_792 dL_law_793 dL_law_794 ?_
  refine l_Ri (As := [.int (xs (i + 1)), .int (xs (i + 2))]) (rest := []) fx (ct_X0_sum l dC dI cy o a Z X (xs (i + 1)) (xs (i + 2)) hI) fyX0_sum tM_RL_94 rfl rfl ⟨Nat.le_of_ble_eq_true rfl, Nat.le_of_ble_eq_true rfl⟩ hK hP rfl hl.1 rfl (Nat.le_of_ble_eq_true rfl) dL_law_795 ⟨Nat.le_of_ble_eq_true rfl, Nat.le_of_ble_eq_true rfl⟩ (fun r1 er => ?_)
  subst er
  refine lv_aload_n hx hb dL_law_798 rfl (lv_at hl 2 rfl) ?_
  refine ld_1 hx hb hX hbl hbA hS hi hL hl dL_law_799 dL_law_800 dL_law_801 dL_law_802 dL_law_803 ?_
  refine ld_2 hx hb hX hbl hbA hS hi hL hl dL_law_804 dL_law_805 dL_law_806 dL_law_807 dL_law_808 ?_
  refine n_Ri (As := [.int (xs (i + 1)), .int (xs (i + 2))]) (rest := [.int (fSum Z (xs (i + 1)) (xs (i + 2)))]) fx (ct_X1_sum l dC dI cy cz o2 a2 Z G T K (xs (i + 1)) (xs (i + 2)) hI hR) fyX1_sum tM_RL_97 rfl rfl ⟨Nat.le_of_ble_eq_true rfl, Nat.le_of_ble_eq_true rfl⟩ hK hP rfl hl.1 rfl (Nat.le_of_ble_eq_true rfl) dL_law_809 ⟨Nat.le_of_ble_eq_true rfl, Nat.le_of_ble_eq_true rfl⟩ (fun r2 er => ?_)
  subst er
  refine lv_icmp_eq (tgt := 1233) hx hb dL_law_812 (by decide) (fun _ => ?_) (fun h => absurd rfl h)
  exact kk _ _ _ _ _ _ _ hI hR hP hD hS
set_option maxHeartbeats 4000000 in
set_option maxRecDepth 100000 in
theorem lc_group (fx : CallFix p m c cL_law 4 s args lw_ok RL) (hK : va_K (dC, dI) vwCl [(cy, .int), (cz, .boolean)] s) (hX : va_X b L xs s s.heap) (hbl : b < s.heap.size) (hA : ∀ q, s.heap.size ≤ q → A q) (hbA : ¬ A b) (hi : i + 5 ≤ L) (hL : L ≤ 2560) (hl : lv_has ls 4 [(0, .ref b), (1, .ref o), (2, .ref o2), (3, .int (nI i))]) (hI : Inv Z) (hR : MRel Z G T K) (hP : va_P (dC, dI) vwCl (bw cy cz o a Z X o2 a2 Z G T K) H) (hD : va_D A (bw cy cz o a Z X o2 a2 Z G T K)) (hS : va_S A s.heap H locs) (kk : ∀ (Z X : ST) (G T K : Nat → Nat) (H : Heap) (locs : List Loc), Inv Z → MRel Z G T K → va_P (dC, dI) vwCl (bw cy cz o a Z X o2 a2 Z G T K) H → va_D A (bw cy cz o a Z X o2 a2 Z G T K) → va_S A s.heap H locs → W p l e room_1 s m args below meth c H locs 25 3741 Q (F0 m 1233 ls [])) : W p l e room_1 s m args below meth c H locs 25 3741 Q (F0 m 817 ls []) := by
  obtain ⟨hx, hb, hml, hown, hts⟩ := id fx
  refine lv_aload_n hx hb dL_law_817 rfl (lv_at hl 1 rfl) ?_
  refine ld_1 hx hb hX hbl hbA hS hi hL hl dL_law_818 dL_law_819 dL_law_820 dL_law_821 dL_law_822 ?_
  refine ld_2 hx hb hX hbl hbA hS hi hL hl dL_law_823 dL_law_824 dL_law_825 dL_law_826 dL_law_827 ?_
  refine ld_3 hx hb hX hbl hbA hS hi hL hl dL_law_828 dL_law_829 dL_law_830 dL_law_831 dL_law_832 ?_
  refine l_Ml (As := [.int (xs (i + 1)), .int (xs (i + 2)), .int (xs (i + 3))]) (rest := []) fx (ct_X0_group l dC dI cy o a Z X _ (xs (i + 1)) (xs (i + 2)) (xs (i + 3)) hI) fyX0_group tM_RL_98 rfl rfl ⟨Nat.le_of_ble_eq_true rfl, Nat.le_of_ble_eq_true rfl⟩ hK hP hD hS hA rfl hl.1 rfl (Nat.le_of_ble_eq_true rfl) dL_law_833 ⟨Nat.le_of_ble_eq_true rfl, Nat.le_of_ble_eq_true rfl⟩ (fun r1 Z9 X9 H locs ew hP hD hS => ?_)
  obtain ⟨er, ez⟩ := ew
  try dsimp only at ez
  subst er
  rw [ez] at hP hD
  refine lv_aload_n hx hb dL_law_836 rfl (lv_at hl 2 rfl) ?_
  refine ld_1 hx hb hX hbl hbA hS hi hL hl dL_law_837 dL_law_838 dL_law_839 dL_law_840 dL_law_841 ?_
  refine ld_2 hx hb hX hbl hbA hS hi hL hl dL_law_842 dL_law_843 dL_law_844 dL_law_845 dL_law_846 ?_
  refine ld_3 hx hb hX hbl hbA hS hi hL hl dL_law_847 dL_law_848 dL_law_849 dL_law_850 dL_law_851 ?_
  refine n_Rl (As := [.int (xs (i + 1)), .int (xs (i + 2)), .int (xs (i + 3))]) (rest := [.long (fGrp Z (xs (i + 1)) (xs (i + 2)) (xs (i + 3)))]) fx (ct_X1_group l dC dI cy cz o2 a2 Z G T K (xs (i + 1)) (xs (i + 2)) (xs (i + 3)) hI hR) fyX1_group tM_RL_102 rfl rfl ⟨Nat.le_of_ble_eq_true rfl, Nat.le_of_ble_eq_true rfl⟩ hK hP rfl hl.1 rfl (Nat.le_of_ble_eq_true rfl) dL_law_852 ⟨Nat.le_of_ble_eq_true rfl, Nat.le_of_ble_eq_true rfl⟩ (fun r2 er => ?_)
  subst er
  refine x_leq (tgt := 1233) hx hb dL_law_855 dL_law_856 (by decide) (fun _ => ?_) (fun h => absurd rfl h)
  exact kk _ _ _ _ _ _ _ hI hR hP hD hS
set_option maxHeartbeats 4000000 in
set_option maxRecDepth 100000 in
theorem lc_scale (fx : CallFix p m c cL_law 4 s args lw_ok RL) (hK : va_K (dC, dI) vwCl [(cy, .int), (cz, .boolean)] s) (hX : va_X b L xs s s.heap) (hbl : b < s.heap.size) (hA : ∀ q, s.heap.size ≤ q → A q) (hbA : ¬ A b) (hi : i + 5 ≤ L) (hL : L ≤ 2560) (hl : lv_has ls 4 [(0, .ref b), (1, .ref o), (2, .ref o2), (3, .int (nI i))]) (hI : Inv Z) (hR : MRel Z G T K) (hP : va_P (dC, dI) vwCl (bw cy cz o a Z X o2 a2 Z G T K) H) (hD : va_D A (bw cy cz o a Z X o2 a2 Z G T K)) (hS : va_S A s.heap H locs) (kk : ∀ (Z X : ST) (G T K : Nat → Nat) (H : Heap) (locs : List Loc), Inv Z → MRel Z G T K → va_P (dC, dI) vwCl (bw cy cz o a Z X o2 a2 Z G T K) H → va_D A (bw cy cz o a Z X o2 a2 Z G T K) → va_S A s.heap H locs → W p l e room_1 s m args below meth c H locs 25 3741 Q (F0 m 1233 ls [])) : W p l e room_1 s m args below meth c H locs 25 3741 Q (F0 m 861 ls []) := by
  obtain ⟨hx, hb, hml, hown, hts⟩ := id fx
  refine lv_aload_n hx hb dL_law_861 rfl (lv_at hl 1 rfl) ?_
  refine ld_1 hx hb hX hbl hbA hS hi hL hl dL_law_862 dL_law_863 dL_law_864 dL_law_865 dL_law_866 ?_
  refine ld_2 hx hb hX hbl hbA hS hi hL hl dL_law_867 dL_law_868 dL_law_869 dL_law_870 dL_law_871 ?_
  refine ld_3 hx hb hX hbl hbA hS hi hL hl dL_law_872 dL_law_873 dL_law_874 dL_law_875 dL_law_876 ?_
  refine ld_4 hx hb hX hbl hbA hS hi hL hl dL_law_877 dL_law_878 dL_law_879 dL_law_880 dL_law_881 ?_
  refine l_Ml (As := [.int (xs (i + 1)), .int (xs (i + 2)), .int (xs (i + 3)), .int (xs (i + 4))]) (rest := []) fx (ct_X0_scale l dC dI cy o a Z X _ (xs (i + 1)) (xs (i + 2)) (xs (i + 3)) (xs (i + 4)) hI) fyX0_scale tM_RL_103 rfl rfl ⟨Nat.le_of_ble_eq_true rfl, Nat.le_of_ble_eq_true rfl⟩ hK hP hD hS hA rfl hl.1 rfl (Nat.le_of_ble_eq_true rfl) dL_law_882 ⟨Nat.le_of_ble_eq_true rfl, Nat.le_of_ble_eq_true rfl⟩ (fun r1 Z9 X9 H locs ew hP hD hS => ?_)
  obtain ⟨er, ez⟩ := ew
  try dsimp only at ez
  subst er
  rw [ez] at hP hD
  refine lv_aload_n hx hb dL_law_885 rfl (lv_at hl 2 rfl) ?_
  refine ld_1 hx hb hX hbl hbA hS hi hL hl dL_law_886 dL_law_887 dL_law_888 dL_law_889 dL_law_890 ?_
  refine ld_2 hx hb hX hbl hbA hS hi hL hl dL_law_891 dL_law_892 dL_law_893 dL_law_894 dL_law_895 ?_
  refine ld_3 hx hb hX hbl hbA hS hi hL hl dL_law_896 dL_law_897 dL_law_898 dL_law_899 dL_law_900 ?_
  refine ld_4 hx hb hX hbl hbA hS hi hL hl dL_law_901 dL_law_902 dL_law_903 dL_law_904 dL_law_905 ?_
  refine n_Rl (As := [.int (xs (i + 1)), .int (xs (i + 2)), .int (xs (i + 3)), .int (xs (i + 4))]) (rest := [.long (fScl Z (xs (i + 1)) (xs (i + 2)) (xs (i + 3)) (xs (i + 4)))]) fx (ct_X1_scale l dC dI cy cz o2 a2 Z G T K (xs (i + 1)) (xs (i + 2)) (xs (i + 3)) (xs (i + 4)) hI hR) fyX1_scale tM_RL_107 rfl rfl ⟨Nat.le_of_ble_eq_true rfl, Nat.le_of_ble_eq_true rfl⟩ hK hP rfl hl.1 rfl (Nat.le_of_ble_eq_true rfl) dL_law_906 ⟨Nat.le_of_ble_eq_true rfl, Nat.le_of_ble_eq_true rfl⟩ (fun r2 er => ?_)
  subst er
  refine x_leq (tgt := 1233) hx hb dL_law_909 dL_law_910 (by decide) (fun _ => ?_) (fun h => absurd rfl h)
  exact kk _ _ _ _ _ _ _ hI hR hP hD hS
set_option maxHeartbeats 4000000 in
set_option maxRecDepth 100000 in
theorem lc_rank (fx : CallFix p m c cL_law 4 s args lw_ok RL) (hK : va_K (dC, dI) vwCl [(cy, .int), (cz, .boolean)] s) (hX : va_X b L xs s s.heap) (hbl : b < s.heap.size) (hA : ∀ q, s.heap.size ≤ q → A q) (hbA : ¬ A b) (hi : i + 5 ≤ L) (hL : L ≤ 2560) (hl : lv_has ls 4 [(0, .ref b), (1, .ref o), (2, .ref o2), (3, .int (nI i))]) (hI : Inv Z) (hR : MRel Z G T K) (hP : va_P (dC, dI) vwCl (bw cy cz o a Z X o2 a2 Z G T K) H) (hD : va_D A (bw cy cz o a Z X o2 a2 Z G T K)) (hS : va_S A s.heap H locs) (kk : ∀ (Z X : ST) (G T K : Nat → Nat) (H : Heap) (locs : List Loc), Inv Z → MRel Z G T K → va_P (dC, dI) vwCl (bw cy cz o a Z X o2 a2 Z G T K) H → va_D A (bw cy cz o a Z X o2 a2 Z G T K) → va_S A s.heap H locs → W p l e room_1 s m args below meth c H locs 25 3741 Q (F0 m 1233 ls [])) : W p l e room_1 s m args below meth c H locs 25 3741 Q (F0 m 915 ls []) := by
  obtain ⟨hx, hb, hml, hown, hts⟩ := id fx
  refine lv_aload_n hx hb dL_law_915 rfl (lv_at hl 1 rfl) ?_
  refine ld_1 hx hb hX hbl hbA hS hi hL hl dL_law_916 dL_law_917 dL_law_918 dL_law_919 dL_law_920 ?_
  refine ld_2 hx hb hX hbl hbA hS hi hL hl dL_law_921 dL_law_922 dL_law_923 dL_law_924 dL_law_925 ?_
  refine l_Mi (As := [.int (xs (i + 1)), .int (xs (i + 2))]) (rest := []) fx (ct_X0_rank l dC dI cy o a Z X _ (xs (i + 1)) (xs (i + 2)) hI) fyX0_rank tM_RL_108 rfl rfl ⟨Nat.le_of_ble_eq_true rfl, Nat.le_of_ble_eq_true rfl⟩ hK hP hD hS hA rfl hl.1 rfl (Nat.le_of_ble_eq_true rfl) dL_law_926 ⟨Nat.le_of_ble_eq_true rfl, Nat.le_of_ble_eq_true rfl⟩ (fun r1 Z9 X9 H locs ew hP hD hS => ?_)
  obtain ⟨er, ez⟩ := ew
  try dsimp only at ez
  subst er
  rw [ez] at hP hD
  refine lv_aload_n hx hb dL_law_929 rfl (lv_at hl 2 rfl) ?_
  refine ld_1 hx hb hX hbl hbA hS hi hL hl dL_law_930 dL_law_931 dL_law_932 dL_law_933 dL_law_934 ?_
  refine ld_2 hx hb hX hbl hbA hS hi hL hl dL_law_935 dL_law_936 dL_law_937 dL_law_938 dL_law_939 ?_
  refine n_Ri (As := [.int (xs (i + 1)), .int (xs (i + 2))]) (rest := [.int (fRnk Z (xs (i + 1)) (xs (i + 2)))]) fx (ct_X1_rank l dC dI cy cz o2 a2 Z G T K (xs (i + 1)) (xs (i + 2)) hI hR) fyX1_rank tM_RL_111 rfl rfl ⟨Nat.le_of_ble_eq_true rfl, Nat.le_of_ble_eq_true rfl⟩ hK hP rfl hl.1 rfl (Nat.le_of_ble_eq_true rfl) dL_law_940 ⟨Nat.le_of_ble_eq_true rfl, Nat.le_of_ble_eq_true rfl⟩ (fun r2 er => ?_)
  subst er
  refine lv_icmp_eq (tgt := 1233) hx hb dL_law_943 (by decide) (fun _ => ?_) (fun h => absurd rfl h)
  exact kk _ _ _ _ _ _ _ hI hR hP hD hS
set_option maxHeartbeats 4000000 in
set_option maxRecDepth 100000 in
theorem lc_like (fx : CallFix p m c cL_law 4 s args lw_ok RL) (hK : va_K (dC, dI) vwCl [(cy, .int), (cz, .boolean)] s) (hX : va_X b L xs s s.heap) (hbl : b < s.heap.size) (hA : ∀ q, s.heap.size ≤ q → A q) (hbA : ¬ A b) (hi : i + 5 ≤ L) (hL : L ≤ 2560) (hl : lv_has ls 4 [(0, .ref b), (1, .ref o), (2, .ref o2), (3, .int (nI i))]) (hI : Inv Z) (hR : MRel Z G T K) (hP : va_P (dC, dI) vwCl (bw cy cz o a Z X o2 a2 Z G T K) H) (hD : va_D A (bw cy cz o a Z X o2 a2 Z G T K)) (hS : va_S A s.heap H locs) (kk : ∀ (Z X : ST) (G T K : Nat → Nat) (H : Heap) (locs : List Loc), Inv Z → MRel Z G T K → va_P (dC, dI) vwCl (bw cy cz o a Z X o2 a2 Z G T K) H → va_D A (bw cy cz o a Z X o2 a2 Z G T K) → va_S A s.heap H locs → W p l e room_1 s m args below meth c H locs 25 3741 Q (F0 m 1233 ls [])) : W p l e room_1 s m args below meth c H locs 25 3741 Q (F0 m 948 ls []) := by
  obtain ⟨hx, hb, hml, hown, hts⟩ := id fx
  refine lv_aload_n hx hb dL_law_948 rfl (lv_at hl 1 rfl) ?_
  refine ld_1 hx hb hX hbl hbA hS hi hL hl dL_law_949 dL_law_950 dL_law_951 dL_law_952 dL_law_953 ?_
  refine ld_2 hx hb hX hbl hbA hS hi hL hl dL_law_954 dL_law_955 dL_law_956 dL_law_957 dL_law_958 ?_
  refine ld_3 hx hb hX hbl hbA hS hi hL hl dL_law_959 dL_law_960 dL_law_961 dL_law_962 dL_law_963 ?_
  refine l_Mi (As := [.int (xs (i + 1)), .int (xs (i + 2)), .int (xs (i + 3))]) (rest := []) fx (ct_X0_like l dC dI cy o a Z X _ (xs (i + 1)) (xs (i + 2)) (xs (i + 3)) hI) fyX0_like tM_RL_112 rfl rfl ⟨Nat.le_of_ble_eq_true rfl, Nat.le_of_ble_eq_true rfl⟩ hK hP hD hS hA rfl hl.1 rfl (Nat.le_of_ble_eq_true rfl) dL_law_964 ⟨Nat.le_of_ble_eq_true rfl, Nat.le_of_ble_eq_true rfl⟩ (fun r1 Z9 X9 H locs ew hP hD hS => ?_)
  obtain ⟨er, ez⟩ := ew
  try dsimp only at ez
  subst er
  rw [ez] at hP hD
  refine lv_aload_n hx hb dL_law_967 rfl (lv_at hl 2 rfl) ?_
  refine ld_1 hx hb hX hbl hbA hS hi hL hl dL_law_968 dL_law_969 dL_law_970 dL_law_971 dL_law_972 ?_
  refine ld_2 hx hb hX hbl hbA hS hi hL hl dL_law_973 dL_law_974 dL_law_975 dL_law_976 dL_law_977 ?_
  refine ld_3 hx hb hX hbl hbA hS hi hL hl dL_law_978 dL_law_979 dL_law_980 dL_law_981 dL_law_982 ?_
  refine n_Ri (As := [.int (xs (i + 1)), .int (xs (i + 2)), .int (xs (i + 3))]) (rest := [.int (fLik Z (xs (i + 1)) (xs (i + 2)) (xs (i + 3)))]) fx (ct_X1_like l dC dI cy cz o2 a2 Z G T K (xs (i + 1)) (xs (i + 2)) (xs (i + 3)) hI hR) fyX1_like tM_RL_115 rfl rfl ⟨Nat.le_of_ble_eq_true rfl, Nat.le_of_ble_eq_true rfl⟩ hK hP rfl hl.1 rfl (Nat.le_of_ble_eq_true rfl) dL_law_983 ⟨Nat.le_of_ble_eq_true rfl, Nat.le_of_ble_eq_true rfl⟩ (fun r2 er => ?_)
  subst er
  refine lv_icmp_eq (tgt := 1233) hx hb dL_law_986 (by decide) (fun _ => ?_) (fun h => absurd rfl h)
  exact kk _ _ _ _ _ _ _ hI hR hP hD hS
set_option maxHeartbeats 4000000 in
set_option maxRecDepth 100000 in
theorem lc_judge (fx : CallFix p m c cL_law 4 s args lw_ok RL) (hK : va_K (dC, dI) vwCl [(cy, .int), (cz, .boolean)] s) (hX : va_X b L xs s s.heap) (hbl : b < s.heap.size) (hA : ∀ q, s.heap.size ≤ q → A q) (hbA : ¬ A b) (hi : i + 5 ≤ L) (hL : L ≤ 2560) (hl : lv_has ls 4 [(0, .ref b), (1, .ref o), (2, .ref o2), (3, .int (nI i))]) (hI : Inv Z) (hR : MRel Z G T K) (hP : va_P (dC, dI) vwCl (bw cy cz o a Z X o2 a2 Z G T K) H) (hD : va_D A (bw cy cz o a Z X o2 a2 Z G T K)) (hS : va_S A s.heap H locs) (kk : ∀ (Z X : ST) (G T K : Nat → Nat) (H : Heap) (locs : List Loc), Inv Z → MRel Z G T K → va_P (dC, dI) vwCl (bw cy cz o a Z X o2 a2 Z G T K) H → va_D A (bw cy cz o a Z X o2 a2 Z G T K) → va_S A s.heap H locs → W p l e room_1 s m args below meth c H locs 25 3741 Q (F0 m 1233 ls [])) : W p l e room_1 s m args below meth c H locs 25 3741 Q (F0 m 991 ls []) := by
  obtain ⟨hx, hb, hml, hown, hts⟩ := id fx
  refine lv_aload_n hx hb dL_law_991 rfl (lv_at hl 1 rfl) ?_
  refine ld_1 hx hb hX hbl hbA hS hi hL hl dL_law_992 dL_law_993 dL_law_994 dL_law_995 dL_law_996 ?_
  refine ld_2 hx hb hX hbl hbA hS hi hL hl dL_law_997 dL_law_998 dL_law_999 dL_law_1000 dL_law_1001 ?_
  refine ld_3 hx hb hX hbl hbA hS hi hL hl dL_law_1002 dL_law_1003 dL_law_1004 dL_law_1005 dL_law_1006 ?_
  refine ld_4 hx hb hX hbl hbA hS hi hL hl dL_law_1007 dL_law_1008 dL_law_1009 dL_law_1010 dL_law_1011 ?_
  refine l_Mi (As := [.int (xs (i + 1)), .int (xs (i + 2)), .int (xs (i + 3)), .int (xs (i + 4))]) (rest := []) fx (ct_X0_judge l dC dI cy o a Z X _ (xs (i + 1)) (xs (i + 2)) (xs (i + 3)) (xs (i + 4)) hI) fyX0_judge tM_RL_116 rfl rfl ⟨Nat.le_of_ble_eq_true rfl, Nat.le_of_ble_eq_true rfl⟩ hK hP hD hS hA rfl hl.1 rfl (Nat.le_of_ble_eq_true rfl) dL_law_1012 ⟨Nat.le_of_ble_eq_true rfl, Nat.le_of_ble_eq_true rfl⟩ (fun r1 Z9 X9 H locs ew hP hD hS => ?_)
  obtain ⟨er, ez⟩ := ew
  try dsimp only at ez
  subst er
  rw [ez] at hP hD
  refine lv_aload_n hx hb dL_law_1015 rfl (lv_at hl 2 rfl) ?_
  refine ld_1 hx hb hX hbl hbA hS hi hL hl dL_law_1016 dL_law_1017 dL_law_1018 dL_law_1019 dL_law_1020 ?_
  refine ld_2 hx hb hX hbl hbA hS hi hL hl dL_law_1021 dL_law_1022 dL_law_1023 dL_law_1024 dL_law_1025 ?_
  refine ld_3 hx hb hX hbl hbA hS hi hL hl dL_law_1026 dL_law_1027 dL_law_1028 dL_law_1029 dL_law_1030 ?_
  refine ld_4 hx hb hX hbl hbA hS hi hL hl dL_law_1031 dL_law_1032 dL_law_1033 dL_law_1034 dL_law_1035 ?_
  refine n_Mi (As := [.int (xs (i + 1)), .int (xs (i + 2)), .int (xs (i + 3)), .int (xs (i + 4))]) (rest := [.int (fJud Z (xs (i + 1)) (xs (i + 2)) (xs (i + 3)) (xs (i + 4)))]) fx (ct_X1_judge l dC dI cy cz o2 a2 Z G T K _ (xs (i + 1)) (xs (i + 2)) (xs (i + 3)) (xs (i + 4)) hI hR) fyX1_judge tM_RL_120 rfl rfl ⟨Nat.le_of_ble_eq_true rfl, Nat.le_of_ble_eq_true rfl⟩ hK hP hD hS hA rfl hl.1 rfl (Nat.le_of_ble_eq_true rfl) dL_law_1036 ⟨Nat.le_of_ble_eq_true rfl, Nat.le_of_ble_eq_true rfl⟩ (fun r2 Y9 G9 T9 K9 H locs ew hP hD hS => ?_)
  obtain ⟨er, ey, eR⟩ := ew
  try dsimp only at ey eR
  subst er
  rw [bw, mw_congr ey] at hP hD
  refine lv_icmp_eq (tgt := 1233) hx hb dL_law_1039 (by decide) (fun _ => ?_) (fun h => absurd rfl h)
  exact kk _ _ _ _ _ _ _ (hI.jud (xs (i + 1)) (xs (i + 2)) (xs (i + 3)) (xs (i + 4))) eR hP hD hS
set_option maxHeartbeats 4000000 in
set_option maxRecDepth 100000 in
theorem lc_cut (fx : CallFix p m c cL_law 4 s args lw_ok RL) (hK : va_K (dC, dI) vwCl [(cy, .int), (cz, .boolean)] s) (hX : va_X b L xs s s.heap) (hbl : b < s.heap.size) (hA : ∀ q, s.heap.size ≤ q → A q) (hbA : ¬ A b) (hi : i + 5 ≤ L) (hL : L ≤ 2560) (hl : lv_has ls 4 [(0, .ref b), (1, .ref o), (2, .ref o2), (3, .int (nI i))]) (hI : Inv Z) (hR : MRel Z G T K) (hP : va_P (dC, dI) vwCl (bw cy cz o a Z X o2 a2 Z G T K) H) (hD : va_D A (bw cy cz o a Z X o2 a2 Z G T K)) (hS : va_S A s.heap H locs) (kk : ∀ (Z X : ST) (G T K : Nat → Nat) (H : Heap) (locs : List Loc), Inv Z → MRel Z G T K → va_P (dC, dI) vwCl (bw cy cz o a Z X o2 a2 Z G T K) H → va_D A (bw cy cz o a Z X o2 a2 Z G T K) → va_S A s.heap H locs → W p l e room_1 s m args below meth c H locs 25 3741 Q (F0 m 1233 ls [])) : W p l e room_1 s m args below meth c H locs 25 3741 Q (F0 m 1044 ls []) := by
  obtain ⟨hx, hb, hml, hown, hts⟩ := id fx
  refine lv_aload_n hx hb dL_law_1044 rfl (lv_at hl 1 rfl) ?_
  refine ld_1 hx hb hX hbl hbA hS hi hL hl dL_law_1045 dL_law_1046 dL_law_1047 dL_law_1048 dL_law_1049 ?_
  refine ld_2 hx hb hX hbl hbA hS hi hL hl dL_law_1050 dL_law_1051 dL_law_1052 dL_law_1053 dL_law_1054 ?_
  refine l_Rl (As := [.int (xs (i + 1)), .int (xs (i + 2))]) (rest := []) fx (ct_X0_cut l dC dI cy o a Z X (xs (i + 1)) (xs (i + 2)) hI) fyX0_cut tM_RL_121 rfl rfl ⟨Nat.le_of_ble_eq_true rfl, Nat.le_of_ble_eq_true rfl⟩ hK hP rfl hl.1 rfl (Nat.le_of_ble_eq_true rfl) dL_law_1055 ⟨Nat.le_of_ble_eq_true rfl, Nat.le_of_ble_eq_true rfl⟩ (fun r1 er => ?_)
  subst er
  refine lv_aload_n hx hb dL_law_1058 rfl (lv_at hl 2 rfl) ?_
  refine ld_1 hx hb hX hbl hbA hS hi hL hl dL_law_1059 dL_law_1060 dL_law_1061 dL_law_1062 dL_law_1063 ?_
  refine ld_2 hx hb hX hbl hbA hS hi hL hl dL_law_1064 dL_law_1065 dL_law_1066 dL_law_1067 dL_law_1068 ?_
  refine n_Rl (As := [.int (xs (i + 1)), .int (xs (i + 2))]) (rest := [.long (fCut Z (xs (i + 1)) (xs (i + 2)))]) fx (ct_X1_cut l dC dI cy cz o2 a2 Z G T K (xs (i + 1)) (xs (i + 2)) hI hR) fyX1_cut tM_RL_124 rfl rfl ⟨Nat.le_of_ble_eq_true rfl, Nat.le_of_ble_eq_true rfl⟩ hK hP rfl hl.1 rfl (Nat.le_of_ble_eq_true rfl) dL_law_1069 ⟨Nat.le_of_ble_eq_true rfl, Nat.le_of_ble_eq_true rfl⟩ (fun r2 er => ?_)
  subst er
  refine x_leq (tgt := 1233) hx hb dL_law_1072 dL_law_1073 (by decide) (fun _ => ?_) (fun h => absurd rfl h)
  exact kk _ _ _ _ _ _ _ hI hR hP hD hS
set_option maxHeartbeats 4000000 in
set_option maxRecDepth 100000 in
theorem lc_passes (fx : CallFix p m c cL_law 4 s args lw_ok RL) (hK : va_K (dC, dI) vwCl [(cy, .int), (cz, .boolean)] s) (hX : va_X b L xs s s.heap) (hbl : b < s.heap.size) (hA : ∀ q, s.heap.size ≤ q → A q) (hbA : ¬ A b) (hi : i + 5 ≤ L) (hL : L ≤ 2560) (hl : lv_has ls 4 [(0, .ref b), (1, .ref o), (2, .ref o2), (3, .int (nI i))]) (hI : Inv Z) (hR : MRel Z G T K) (hP : va_P (dC, dI) vwCl (bw cy cz o a Z X o2 a2 Z G T K) H) (hD : va_D A (bw cy cz o a Z X o2 a2 Z G T K)) (hS : va_S A s.heap H locs) (kk : ∀ (Z X : ST) (G T K : Nat → Nat) (H : Heap) (locs : List Loc), Inv Z → MRel Z G T K → va_P (dC, dI) vwCl (bw cy cz o a Z X o2 a2 Z G T K) H → va_D A (bw cy cz o a Z X o2 a2 Z G T K) → va_S A s.heap H locs → W p l e room_1 s m args below meth c H locs 25 3741 Q (F0 m 1233 ls [])) : W p l e room_1 s m args below meth c H locs 25 3741 Q (F0 m 1078 ls []) := by
  obtain ⟨hx, hb, hml, hown, hts⟩ := id fx
  refine lv_aload_n hx hb dL_law_1078 rfl (lv_at hl 1 rfl) ?_
  refine ld_1 hx hb hX hbl hbA hS hi hL hl dL_law_1079 dL_law_1080 dL_law_1081 dL_law_1082 dL_law_1083 ?_
  refine l_Ri (As := [.int (xs (i + 1))]) (rest := []) fx (ct_X0_passes l dC dI cy o a Z X (xs (i + 1)) hI) fyX0_passes tM_RL_125 rfl rfl ⟨Nat.le_of_ble_eq_true rfl, Nat.le_of_ble_eq_true rfl⟩ hK hP rfl hl.1 rfl (Nat.le_of_ble_eq_true rfl) dL_law_1084 ⟨Nat.le_of_ble_eq_true rfl, Nat.le_of_ble_eq_true rfl⟩ (fun r1 er => ?_)
  subst er
  refine lv_aload_n hx hb dL_law_1087 rfl (lv_at hl 2 rfl) ?_
  refine ld_1 hx hb hX hbl hbA hS hi hL hl dL_law_1088 dL_law_1089 dL_law_1090 dL_law_1091 dL_law_1092 ?_
  refine n_Ri (As := [.int (xs (i + 1))]) (rest := [.int (fPas Z (xs (i + 1)))]) fx (ct_X1_passes l dC dI cy cz o2 a2 Z G T K (xs (i + 1)) hI hR) fyX1_passes tM_RL_128 rfl rfl ⟨Nat.le_of_ble_eq_true rfl, Nat.le_of_ble_eq_true rfl⟩ hK hP rfl hl.1 rfl (Nat.le_of_ble_eq_true rfl) dL_law_1093 ⟨Nat.le_of_ble_eq_true rfl, Nat.le_of_ble_eq_true rfl⟩ (fun r2 er => ?_)
  subst er
  refine lv_icmp_eq (tgt := 1233) hx hb dL_law_1096 (by decide) (fun _ => ?_) (fun h => absurd rfl h)
  exact kk _ _ _ _ _ _ _ hI hR hP hD hS
set_option maxHeartbeats 4000000 in
set_option maxRecDepth 100000 in
theorem lc_border (fx : CallFix p m c cL_law 4 s args lw_ok RL) (hK : va_K (dC, dI) vwCl [(cy, .int), (cz, .boolean)] s) (hX : va_X b L xs s s.heap) (hbl : b < s.heap.size) (hA : ∀ q, s.heap.size ≤ q → A q) (hbA : ¬ A b) (hi : i + 5 ≤ L) (hL : L ≤ 2560) (hl : lv_has ls 4 [(0, .ref b), (1, .ref o), (2, .ref o2), (3, .int (nI i))]) (hI : Inv Z) (hR : MRel Z G T K) (hP : va_P (dC, dI) vwCl (bw cy cz o a Z X o2 a2 Z G T K) H) (hD : va_D A (bw cy cz o a Z X o2 a2 Z G T K)) (hS : va_S A s.heap H locs) (kk : ∀ (Z X : ST) (G T K : Nat → Nat) (H : Heap) (locs : List Loc), Inv Z → MRel Z G T K → va_P (dC, dI) vwCl (bw cy cz o a Z X o2 a2 Z G T K) H → va_D A (bw cy cz o a Z X o2 a2 Z G T K) → va_S A s.heap H locs → W p l e room_1 s m args below meth c H locs 25 3741 Q (F0 m 1233 ls [])) : W p l e room_1 s m args below meth c H locs 25 3741 Q (F0 m 1101 ls []) := by
  obtain ⟨hx, hb, hml, hown, hts⟩ := id fx
  refine lv_aload_n hx hb dL_law_1101 rfl (lv_at hl 1 rfl) ?_
  refine ld_1 hx hb hX hbl hbA hS hi hL hl dL_law_1102 dL_law_1103 dL_law_1104 dL_law_1105 dL_law_1106 ?_
  refine ld_2 hx hb hX hbl hbA hS hi hL hl dL_law_1107 dL_law_1108 dL_law_1109 dL_law_1110 dL_law_1111 ?_
  refine l_Mi (As := [.int (xs (i + 1)), .int (xs (i + 2))]) (rest := []) fx (ct_X0_border l dC dI cy o a Z X _ (xs (i + 1)) (xs (i + 2)) hI) fyX0_border tM_RL_129 rfl rfl ⟨Nat.le_of_ble_eq_true rfl, Nat.le_of_ble_eq_true rfl⟩ hK hP hD hS hA rfl hl.1 rfl (Nat.le_of_ble_eq_true rfl) dL_law_1112 ⟨Nat.le_of_ble_eq_true rfl, Nat.le_of_ble_eq_true rfl⟩ (fun r1 Z9 X9 H locs ew hP hD hS => ?_)
  obtain ⟨er, ez⟩ := ew
  try dsimp only at ez
  subst er
  rw [ez] at hP hD
  refine lv_aload_n hx hb dL_law_1115 rfl (lv_at hl 2 rfl) ?_
  refine ld_1 hx hb hX hbl hbA hS hi hL hl dL_law_1116 dL_law_1117 dL_law_1118 dL_law_1119 dL_law_1120 ?_
  refine ld_2 hx hb hX hbl hbA hS hi hL hl dL_law_1121 dL_law_1122 dL_law_1123 dL_law_1124 dL_law_1125 ?_
  refine n_Ri (As := [.int (xs (i + 1)), .int (xs (i + 2))]) (rest := [.int (fBor Z (xs (i + 1)) (xs (i + 2)))]) fx (ct_X1_border l dC dI cy cz o2 a2 Z G T K (xs (i + 1)) (xs (i + 2)) hI hR) fyX1_border tM_RL_132 rfl rfl ⟨Nat.le_of_ble_eq_true rfl, Nat.le_of_ble_eq_true rfl⟩ hK hP rfl hl.1 rfl (Nat.le_of_ble_eq_true rfl) dL_law_1126 ⟨Nat.le_of_ble_eq_true rfl, Nat.le_of_ble_eq_true rfl⟩ (fun r2 er => ?_)
  subst er
  refine lv_icmp_eq (tgt := 1233) hx hb dL_law_1129 (by decide) (fun _ => ?_) (fun h => absurd rfl h)
  exact kk _ _ _ _ _ _ _ hI hR hP hD hS
set_option maxHeartbeats 4000000 in
set_option maxRecDepth 100000 in
theorem lc_alike (fx : CallFix p m c cL_law 4 s args lw_ok RL) (hK : va_K (dC, dI) vwCl [(cy, .int), (cz, .boolean)] s) (hX : va_X b L xs s s.heap) (hbl : b < s.heap.size) (hA : ∀ q, s.heap.size ≤ q → A q) (hbA : ¬ A b) (hi : i + 5 ≤ L) (hL : L ≤ 2560) (hl : lv_has ls 4 [(0, .ref b), (1, .ref o), (2, .ref o2), (3, .int (nI i))]) (hI : Inv Z) (hR : MRel Z G T K) (hP : va_P (dC, dI) vwCl (bw cy cz o a Z X o2 a2 Z G T K) H) (hD : va_D A (bw cy cz o a Z X o2 a2 Z G T K)) (hS : va_S A s.heap H locs) (kk : ∀ (Z X : ST) (G T K : Nat → Nat) (H : Heap) (locs : List Loc), Inv Z → MRel Z G T K → va_P (dC, dI) vwCl (bw cy cz o a Z X o2 a2 Z G T K) H → va_D A (bw cy cz o a Z X o2 a2 Z G T K) → va_S A s.heap H locs → W p l e room_1 s m args below meth c H locs 25 3741 Q (F0 m 1233 ls [])) : W p l e room_1 s m args below meth c H locs 25 3741 Q (F0 m 1134 ls []) := by
  obtain ⟨hx, hb, hml, hown, hts⟩ := id fx
  refine lv_aload_n hx hb dL_law_1134 rfl (lv_at hl 1 rfl) ?_
  refine ld_1 hx hb hX hbl hbA hS hi hL hl dL_law_1135 dL_law_1136 dL_law_1137 dL_law_1138 dL_law_1139 ?_
  refine ld_2 hx hb hX hbl hbA hS hi hL hl dL_law_1140 dL_law_1141 dL_law_1142 dL_law_1143 dL_law_1144 ?_
  refine l_Ri (As := [.int (xs (i + 1)), .int (xs (i + 2))]) (rest := []) fx (ct_X0_alike l dC dI cy o a Z X (xs (i + 1)) (xs (i + 2)) hI) fyX0_alike tM_RL_133 rfl rfl ⟨Nat.le_of_ble_eq_true rfl, Nat.le_of_ble_eq_true rfl⟩ hK hP rfl hl.1 rfl (Nat.le_of_ble_eq_true rfl) dL_law_1145 ⟨Nat.le_of_ble_eq_true rfl, Nat.le_of_ble_eq_true rfl⟩ (fun r1 er => ?_)
  subst er
  refine lv_aload_n hx hb dL_law_1148 rfl (lv_at hl 2 rfl) ?_
  refine ld_1 hx hb hX hbl hbA hS hi hL hl dL_law_1149 dL_law_1150 dL_law_1151 dL_law_1152 dL_law_1153 ?_
  refine ld_2 hx hb hX hbl hbA hS hi hL hl dL_law_1154 dL_law_1155 dL_law_1156 dL_law_1157 dL_law_1158 ?_
  refine n_Ri (As := [.int (xs (i + 1)), .int (xs (i + 2))]) (rest := [.int (fAlk Z (xs (i + 1)) (xs (i + 2)))]) fx (ct_X1_alike l dC dI cy cz o2 a2 Z G T K (xs (i + 1)) (xs (i + 2)) hI hR) fyX1_alike tM_RL_136 rfl rfl ⟨Nat.le_of_ble_eq_true rfl, Nat.le_of_ble_eq_true rfl⟩ hK hP rfl hl.1 rfl (Nat.le_of_ble_eq_true rfl) dL_law_1159 ⟨Nat.le_of_ble_eq_true rfl, Nat.le_of_ble_eq_true rfl⟩ (fun r2 er => ?_)
  subst er
  refine lv_icmp_eq (tgt := 1233) hx hb dL_law_1162 (by decide) (fun _ => ?_) (fun h => absurd rfl h)
  exact kk _ _ _ _ _ _ _ hI hR hP hD hS
set_option maxHeartbeats 4000000 in
set_option maxRecDepth 100000 in
theorem lc_pair (fx : CallFix p m c cL_law 4 s args lw_ok RL) (hK : va_K (dC, dI) vwCl [(cy, .int), (cz, .boolean)] s) (hX : va_X b L xs s s.heap) (hbl : b < s.heap.size) (hA : ∀ q, s.heap.size ≤ q → A q) (hbA : ¬ A b) (hi : i + 5 ≤ L) (hL : L ≤ 2560) (hl : lv_has ls 4 [(0, .ref b), (1, .ref o), (2, .ref o2), (3, .int (nI i))]) (hI : Inv Z) (hR : MRel Z G T K) (hP : va_P (dC, dI) vwCl (bw cy cz o a Z X o2 a2 Z G T K) H) (hD : va_D A (bw cy cz o a Z X o2 a2 Z G T K)) (hS : va_S A s.heap H locs) (kk : ∀ (Z X : ST) (G T K : Nat → Nat) (H : Heap) (locs : List Loc), Inv Z → MRel Z G T K → va_P (dC, dI) vwCl (bw cy cz o a Z X o2 a2 Z G T K) H → va_D A (bw cy cz o a Z X o2 a2 Z G T K) → va_S A s.heap H locs → W p l e room_1 s m args below meth c H locs 25 3741 Q (F0 m 1233 ls [])) : W p l e room_1 s m args below meth c H locs 25 3741 Q (F0 m 1167 ls []) := by
  obtain ⟨hx, hb, hml, hown, hts⟩ := id fx
  refine lv_aload_n hx hb dL_law_1167 rfl (lv_at hl 1 rfl) ?_
  refine ld_1 hx hb hX hbl hbA hS hi hL hl dL_law_1168 dL_law_1169 dL_law_1170 dL_law_1171 dL_law_1172 ?_
  refine ld_2 hx hb hX hbl hbA hS hi hL hl dL_law_1173 dL_law_1174 dL_law_1175 dL_law_1176 dL_law_1177 ?_
  refine ld_3 hx hb hX hbl hbA hS hi hL hl dL_law_1178 dL_law_1179 dL_law_1180 dL_law_1181 dL_law_1182 ?_
  refine l_Ri (As := [.int (xs (i + 1)), .int (xs (i + 2)), .int (xs (i + 3))]) (rest := []) fx (ct_X0_pair l dC dI cy o a Z X (xs (i + 1)) (xs (i + 2)) (xs (i + 3)) hI) fyX0_pair tM_RL_137 rfl rfl ⟨Nat.le_of_ble_eq_true rfl, Nat.le_of_ble_eq_true rfl⟩ hK hP rfl hl.1 rfl (Nat.le_of_ble_eq_true rfl) dL_law_1183 ⟨Nat.le_of_ble_eq_true rfl, Nat.le_of_ble_eq_true rfl⟩ (fun r1 er => ?_)
  subst er
  refine lv_aload_n hx hb dL_law_1186 rfl (lv_at hl 2 rfl) ?_
  refine ld_1 hx hb hX hbl hbA hS hi hL hl dL_law_1187 dL_law_1188 dL_law_1189 dL_law_1190 dL_law_1191 ?_
  refine ld_2 hx hb hX hbl hbA hS hi hL hl dL_law_1192 dL_law_1193 dL_law_1194 dL_law_1195 dL_law_1196 ?_
  refine ld_3 hx hb hX hbl hbA hS hi hL hl dL_law_1197 dL_law_1198 dL_law_1199 dL_law_1200 dL_law_1201 ?_
  refine n_Ri (As := [.int (xs (i + 1)), .int (xs (i + 2)), .int (xs (i + 3))]) (rest := [.int (fPar Z (xs (i + 1)) (xs (i + 2)) (xs (i + 3)))]) fx (ct_X1_pair l dC dI cy cz o2 a2 Z G T K (xs (i + 1)) (xs (i + 2)) (xs (i + 3)) hI hR) fyX1_pair tM_RL_140 rfl rfl ⟨Nat.le_of_ble_eq_true rfl, Nat.le_of_ble_eq_true rfl⟩ hK hP rfl hl.1 rfl (Nat.le_of_ble_eq_true rfl) dL_law_1202 ⟨Nat.le_of_ble_eq_true rfl, Nat.le_of_ble_eq_true rfl⟩ (fun r2 er => ?_)
  subst er
  refine lv_icmp_eq (tgt := 1233) hx hb dL_law_1205 (by decide) (fun _ => ?_) (fun h => absurd rfl h)
  exact kk _ _ _ _ _ _ _ hI hR hP hD hS
set_option maxHeartbeats 4000000 in
set_option maxRecDepth 100000 in
theorem lc_count (fx : CallFix p m c cL_law 4 s args lw_ok RL) (hK : va_K (dC, dI) vwCl [(cy, .int), (cz, .boolean)] s) (hX : va_X b L xs s s.heap) (hbl : b < s.heap.size) (hA : ∀ q, s.heap.size ≤ q → A q) (hbA : ¬ A b) (hi : i + 5 ≤ L) (hL : L ≤ 2560) (hl : lv_has ls 4 [(0, .ref b), (1, .ref o), (2, .ref o2), (3, .int (nI i))]) (hI : Inv Z) (hR : MRel Z G T K) (hP : va_P (dC, dI) vwCl (bw cy cz o a Z X o2 a2 Z G T K) H) (hD : va_D A (bw cy cz o a Z X o2 a2 Z G T K)) (hS : va_S A s.heap H locs) (kk : ∀ (Z X : ST) (G T K : Nat → Nat) (H : Heap) (locs : List Loc), Inv Z → MRel Z G T K → va_P (dC, dI) vwCl (bw cy cz o a Z X o2 a2 Z G T K) H → va_D A (bw cy cz o a Z X o2 a2 Z G T K) → va_S A s.heap H locs → W p l e room_1 s m args below meth c H locs 25 3741 Q (F0 m 1233 ls [])) : W p l e room_1 s m args below meth c H locs 25 3741 Q (F0 m 1210 ls []) := by
  obtain ⟨hx, hb, hml, hown, hts⟩ := id fx
  refine lv_aload_n hx hb dL_law_1210 rfl (lv_at hl 1 rfl) ?_
  refine ld_1 hx hb hX hbl hbA hS hi hL hl dL_law_1211 dL_law_1212 dL_law_1213 dL_law_1214 dL_law_1215 ?_
  refine l_Ri (As := [.int (xs (i + 1))]) (rest := []) fx (ct_X0_count l dC dI cy o a Z X (xs (i + 1)) hI) fyX0_count tM_RL_141 rfl rfl ⟨Nat.le_of_ble_eq_true rfl, Nat.le_of_ble_eq_true rfl⟩ hK hP rfl hl.1 rfl (Nat.le_of_ble_eq_true rfl) dL_law_1216 ⟨Nat.le_of_ble_eq_true rfl, Nat.le_of_ble_eq_true rfl⟩ (fun r1 er => ?_)
  subst er
  refine lv_aload_n hx hb dL_law_1219 rfl (lv_at hl 2 rfl) ?_
  refine ld_1 hx hb hX hbl hbA hS hi hL hl dL_law_1220 dL_law_1221 dL_law_1222 dL_law_1223 dL_law_1224 ?_
  refine n_Ri (As := [.int (xs (i + 1))]) (rest := [.int (fCnt Z (xs (i + 1)))]) fx (ct_X1_count l dC dI cy cz o2 a2 Z G T K (xs (i + 1)) hI hR) fyX1_count tM_RL_144 rfl rfl ⟨Nat.le_of_ble_eq_true rfl, Nat.le_of_ble_eq_true rfl⟩ hK hP rfl hl.1 rfl (Nat.le_of_ble_eq_true rfl) dL_law_1225 ⟨Nat.le_of_ble_eq_true rfl, Nat.le_of_ble_eq_true rfl⟩ (fun r2 er => ?_)
  subst er
  refine lv_icmp_eq (tgt := 1233) hx hb dL_law_1228 (by decide) (fun _ => ?_) (fun h => absurd rfl h)
  exact kk _ _ _ _ _ _ _ hI hR hP hD hS
end LAWC
