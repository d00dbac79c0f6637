def fL_law_1486 (xs : Nat → Int32) (L : Nat) (Q18 : Int32 → AH → Option (Int32 × AH)) (x3 : Int32) (h : AH) : Option (Int32 × AH) :=
  Q18 (x3 + 6) h
set_option maxRecDepth 10000 in
theorem sL_law_1486 {G : GG} {E : EE} {h' : AH} (K : OK G E 99 RL cL_law 4) (Z : RTL G E) (xs : Nat → Int32) (L : Nat) (XO : XOK G E L xs) (Q18 : Int32 → AH → Option (Int32 × AH)) (hQ18 : ∀ (x3 : Int32) (h : AH), Q18 x3 h = some (1, h') → JJ G E 4 18 [(0, .ref 300), (1, .ref 0), (2, .ref 59), (3, .int x3)] [] h) (x3 : Int32) (h : AH) (hf : fL_law_1486 xs L Q18 x3 h = some (1, h')) : JJ G E 4 1486 [(0, .ref 300), (1, .ref 0), (2, .ref 59), (3, .int x3)] [] h := by
  unfold fL_law_1486 at hf
  refine r_iinc (y := 6) (lv' := [(3, .int (x3 + 6)), (0, .ref 300), (1, .ref 0), (2, .ref 59)]) K dL_law_1486 3 rfl rfl (Nat.le_of_ble_eq_true rfl) rfl ?_
  refine r_goto (tgt := 18) K dL_law_1489 (by decide) ?_
  refine r_lv [1, 2, 3, 0] rfl ?_
  exact hQ18 (x3 + 6) h hf
def fL_law_212 (xs : Nat → Int32) (L : Nat) (Q18 : Int32 → AH → Option (Int32 × AH)) (x3 : Int32) (h : AH) : Option (Int32 × AH) :=
  if inb (x3 + 1) L = true then if inb (x3 + 2) L = true then bind2 (fX9_guest (xs (ix (x3 + 1))) (xs (ix (x3 + 2))) h) fun r8_ h9_ => bind2 (fX10_guest (xs (ix (x3 + 1))) (xs (ix (x3 + 2))) h9_) fun r13_ h14_ => if r8_ = r13_ then fL_law_1486 xs L Q18 x3 h14_ else some (0, h14_) else none else none
set_option maxRecDepth 10000 in
theorem sL_law_212 {G : GG} {E : EE} {h' : AH} (K : OK G E 99 RL cL_law 4) (Z : RTL G E) (xs : Nat → Int32) (L : Nat) (XO : XOK G E L xs) (Q18 : Int32 → AH → Option (Int32 × AH)) (hQ18 : ∀ (x3 : Int32) (h : AH), Q18 x3 h = some (1, h') → JJ G E 4 18 [(0, .ref 300), (1, .ref 0), (2, .ref 59), (3, .int x3)] [] h) (x3 : Int32) (h : AH) (hf : fL_law_212 xs L Q18 x3 h = some (1, h')) : JJ G E 4 212 [(0, .ref 300), (1, .ref 0), (2, .ref 59), (3, .int x3)] [] h := by
  unfold fL_law_212 at hf
  refine r_aload_n K dL_law_212 1 rfl rfl ?_
  refine r_aload_n K dL_law_213 0 rfl rfl ?_
  refine r_iload_n K dL_law_214 3 rfl rfl ?_
  refine r_iconst (v := 1) K dL_law_215 rfl ?_
  refine r_iadd K dL_law_216 ?_
  obtain ⟨g6_, hf⟩ := e_g hf
  refine r_xald K XO dL_law_217 g6_ ?_
  refine r_aload_n K dL_law_218 0 rfl rfl ?_
  refine r_iload_n K dL_law_219 3 rfl rfl ?_
  refine r_iconst (v := 2) K dL_law_220 rfl ?_
  refine r_iadd K dL_law_221 ?_
  obtain ⟨g7_, hf⟩ := e_g hf
  refine r_xald K XO dL_law_222 g7_ ?_
  obtain ⟨r8_, h9_, g10_, hf⟩ := e_2 hf
  refine r_callV (av := [.int (xs (ix (x3 + 1))), .int (xs (ix (x3 + 2)))]) (st := []) K lkL_13 mwX9_guest (conX9_guest (xs (ix (x3 + 1))) (xs (ix (x3 + 2))) h r8_ h9_ g10_) dL_law_223 rfl (Nat.le_of_ble_eq_true rfl) rfl rfl (Nat.le_of_ble_eq_true rfl) ?_
  refine r_aload_n K dL_law_226 2 rfl rfl ?_
  refine r_aload_n K dL_law_227 0 rfl rfl ?_
  refine r_iload_n K dL_law_228 3 rfl rfl ?_
  refine r_iconst (v := 1) K dL_law_229 rfl ?_
  refine r_iadd K dL_law_230 ?_
  refine r_xald K XO dL_law_231 g6_ ?_
  refine r_aload_n K dL_law_232 0 rfl rfl ?_
  refine r_iload_n K dL_law_233 3 rfl rfl ?_
  refine r_iconst (v := 2) K dL_law_234 rfl ?_
  refine r_iadd K dL_law_235 ?_
  refine r_xald K XO dL_law_236 g7_ ?_
  obtain ⟨r13_, h14_, g15_, hf⟩ := e_2 hf
  refine r_callV (av := [.int (xs (ix (x3 + 1))), .int (xs (ix (x3 + 2)))]) (st := [.int r8_]) K lkL_17 mwX10_guest (conX10_guest (xs (ix (x3 + 1))) (xs (ix (x3 + 2))) h9_ r13_ h14_ g15_) dL_law_237 rfl (Nat.le_of_ble_eq_true rfl) rfl rfl (Nat.le_of_ble_eq_true rfl) ?_
  refine r_icmp_eq (tgt := 1486) K dL_law_240 (by decide) (fun c16_ => ?_) (fun c16_ => ?_)
  · have hf := e_t hf c16_
    refine r_lv [0, 1, 2, 3] rfl ?_
    exact sL_law_1486 K Z xs L XO Q18 hQ18 x3 h14_ hf
  · have hf := e_f hf c16_
    refine r_iconst (v := 0) K dL_law_243 rfl ?_
    exact r_lawret K Z dL_law_244 hf
def fL_law_245 (xs : Nat → Int32) (L : Nat) (Q18 : Int32 → AH → Option (Int32 × AH)) (x3 : Int32) (h : AH) : Option (Int32 × AH) :=
  if inb (x3 + 1) L = true then if inb (x3 + 2) L = true then if inb (x3 + 3) L = true then bind2 (fX9_guests (xs (ix (x3 + 1))) (xs (ix (x3 + 2))) (xs (ix (x3 + 3))) h) fun r21_ h22_ => bind2 (fX10_guests (xs (ix (x3 + 1))) (xs (ix (x3 + 2))) (xs (ix (x3 + 3))) h22_) fun r27_ h28_ => if r21_ = r27_ then fL_law_1486 xs L Q18 x3 h28_ else some (0, h28_) else none else none else none
set_option maxRecDepth 10000 in
theorem sL_law_245 {G : GG} {E : EE} {h' : AH} (K : OK G E 99 RL cL_law 4) (Z : RTL G E) (xs : Nat → Int32) (L : Nat) (XO : XOK G E L xs) (Q18 : Int32 → AH → Option (Int32 × AH)) (hQ18 : ∀ (x3 : Int32) (h : AH), Q18 x3 h = some (1, h') → JJ G E 4 18 [(0, .ref 300), (1, .ref 0), (2, .ref 59), (3, .int x3)] [] h) (x3 : Int32) (h : AH) (hf : fL_law_245 xs L Q18 x3 h = some (1, h')) : JJ G E 4 245 [(0, .ref 300), (1, .ref 0), (2, .ref 59), (3, .int x3)] [] h := by
  unfold fL_law_245 at hf
  refine r_aload_n K dL_law_245 1 rfl rfl ?_
  refine r_aload_n K dL_law_246 0 rfl rfl ?_
  refine r_iload_n K dL_law_247 3 rfl rfl ?_
  refine r_iconst (v := 1) K dL_law_248 rfl ?_
  refine r_iadd K dL_law_249 ?_
  obtain ⟨g18_, hf⟩ := e_g hf
  refine r_xald K XO dL_law_250 g18_ ?_
  refine r_aload_n K dL_law_251 0 rfl rfl ?_
  refine r_iload_n K dL_law_252 3 rfl rfl ?_
  refine r_iconst (v := 2) K dL_law_253 rfl ?_
  refine r_iadd K dL_law_254 ?_
  obtain ⟨g19_, hf⟩ := e_g hf
  refine r_xald K XO dL_law_255 g19_ ?_
  refine r_aload_n K dL_law_256 0 rfl rfl ?_
  refine r_iload_n K dL_law_257 3 rfl rfl ?_
  refine r_iconst (v := 3) K dL_law_258 rfl ?_
  refine r_iadd K dL_law_259 ?_
  obtain ⟨g20_, hf⟩ := e_g hf
  refine r_xald K XO dL_law_260 g20_ ?_
  obtain ⟨r21_, h22_, g23_, hf⟩ := e_2 hf
  refine r_callV (av := [.int (xs (ix (x3 + 1))), .int (xs (ix (x3 + 2))), .int (xs (ix (x3 + 3)))]) (st := []) K lkL_18 mwX9_guests (conX9_guests (xs (ix (x3 + 1))) (xs (ix (x3 + 2))) (xs (ix (x3 + 3))) h r21_ h22_ g23_) dL_law_261 rfl (Nat.le_of_ble_eq_true rfl) rfl rfl (Nat.le_of_ble_eq_true rfl) ?_
  refine r_aload_n K dL_law_264 2 rfl rfl ?_
  refine r_aload_n K dL_law_265 0 rfl rfl ?_
  refine r_iload_n K dL_law_266 3 rfl rfl ?_
  refine r_iconst (v := 1) K dL_law_267 rfl ?_
  refine r_iadd K dL_law_268 ?_
  refine r_xald K XO dL_law_269 g18_ ?_
  refine r_aload_n K dL_law_270 0 rfl rfl ?_
  refine r_iload_n K dL_law_271 3 rfl rfl ?_
  refine r_iconst (v := 2) K dL_law_272 rfl ?_
  refine r_iadd K dL_law_273 ?_
  refine r_xald K XO dL_law_274 g19_ ?_
  refine r_aload_n K dL_law_275 0 rfl rfl ?_
  refine r_iload_n K dL_law_276 3 rfl rfl ?_
  refine r_iconst (v := 3) K dL_law_277 rfl ?_
  refine r_iadd K dL_law_278 ?_
  refine r_xald K XO dL_law_279 g20_ ?_
  obtain ⟨r27_, h28_, g29_, hf⟩ := e_2 hf
  refine r_callV (av := [.int (xs (ix (x3 + 1))), .int (xs (ix (x3 + 2))), .int (xs (ix (x3 + 3)))]) (st := [.int r21_]) K lkL_22 mwX10_guests (conX10_guests (xs (ix (x3 + 1))) (xs (ix (x3 + 2))) (xs (ix (x3 + 3))) h22_ r27_ h28_ g29_) dL_law_280 rfl (Nat.le_of_ble_eq_true rfl) rfl rfl (Nat.le_of_ble_eq_true rfl) ?_
  refine r_icmp_eq (tgt := 1486) K dL_law_283 (by decide) (fun c30_ => ?_) (fun c30_ => ?_)
  · have hf := e_t hf c30_
    refine r_lv [0, 1, 2, 3] rfl ?_
    exact sL_law_1486 K Z xs L XO Q18 hQ18 x3 h28_ hf
  · have hf := e_f hf c30_
    refine r_iconst (v := 0) K dL_law_286 rfl ?_
    exact r_lawret K Z dL_law_287 hf
def fL_law_288 (xs : Nat → Int32) (L : Nat) (Q18 : Int32 → AH → Option (Int32 × AH)) (x3 : Int32) (h : AH) : Option (Int32 × AH) :=
  if inb (x3 + 1) L = true then if inb (x3 + 2) L = true then if inb (x3 + 3) L = true then bind2 (fX9_slip (xs (ix (x3 + 1))) (xs (ix (x3 + 2))) (xs (ix (x3 + 3))) h) fun r35_ h36_ => bind2 (fX10_slip (xs (ix (x3 + 1))) (xs (ix (x3 + 2))) (xs (ix (x3 + 3))) h36_) fun r41_ h42_ => if r35_ = r41_ then fL_law_1486 xs L Q18 x3 h42_ else some (0, h42_) else none else none else none
set_option maxRecDepth 10000 in
theorem sL_law_288 {G : GG} {E : EE} {h' : AH} (K : OK G E 99 RL cL_law 4) (Z : RTL G E) (xs : Nat → Int32) (L : Nat) (XO : XOK G E L xs) (Q18 : Int32 → AH → Option (Int32 × AH)) (hQ18 : ∀ (x3 : Int32) (h : AH), Q18 x3 h = some (1, h') → JJ G E 4 18 [(0, .ref 300), (1, .ref 0), (2, .ref 59), (3, .int x3)] [] h) (x3 : Int32) (h : AH) (hf : fL_law_288 xs L Q18 x3 h = some (1, h')) : JJ G E 4 288 [(0, .ref 300), (1, .ref 0), (2, .ref 59), (3, .int x3)] [] h := by
  unfold fL_law_288 at hf
  refine r_aload_n K dL_law_288 1 rfl rfl ?_
  refine r_aload_n K dL_law_289 0 rfl rfl ?_
  refine r_iload_n K dL_law_290 3 rfl rfl ?_
  refine r_iconst (v := 1) K dL_law_291 rfl ?_
  refine r_iadd K dL_law_292 ?_
  obtain ⟨g32_, hf⟩ := e_g hf
  refine r_xald K XO dL_law_293 g32_ ?_
  refine r_aload_n K dL_law_294 0 rfl rfl ?_
  refine r_iload_n K dL_law_295 3 rfl rfl ?_
  refine r_iconst (v := 2) K dL_law_296 rfl ?_
  refine r_iadd K dL_law_297 ?_
  obtain ⟨g33_, hf⟩ := e_g hf
  refine r_xald K XO dL_law_298 g33_ ?_
  refine r_aload_n K dL_law_299 0 rfl rfl ?_
  refine r_iload_n K dL_law_300 3 rfl rfl ?_
  refine r_iconst (v := 3) K dL_law_301 rfl ?_
  refine r_iadd K dL_law_302 ?_
  obtain ⟨g34_, hf⟩ := e_g hf
  refine r_xald K XO dL_law_303 g34_ ?_
  obtain ⟨r35_, h36_, g37_, hf⟩ := e_2 hf
  refine r_callV (av := [.int (xs (ix (x3 + 1))), .int (xs (ix (x3 + 2))), .int (xs (ix (x3 + 3)))]) (st := []) K lkL_23 mwX9_slip (conX9_slip (xs (ix (x3 + 1))) (xs (ix (x3 + 2))) (xs (ix (x3 + 3))) h r35_ h36_ g37_) dL_law_304 rfl (Nat.le_of_ble_eq_true rfl) rfl rfl (Nat.le_of_ble_eq_true rfl) ?_
  refine r_aload_n K dL_law_307 2 rfl rfl ?_
  refine r_aload_n K dL_law_308 0 rfl rfl ?_
  refine r_iload_n K dL_law_309 3 rfl rfl ?_
  refine r_iconst (v := 1) K dL_law_310 rfl ?_
  refine r_iadd K dL_law_311 ?_
  refine r_xald K XO dL_law_312 g32_ ?_
  refine r_aload_n K dL_law_313 0 rfl rfl ?_
  refine r_iload_n K dL_law_314 3 rfl rfl ?_
  refine r_iconst (v := 2) K dL_law_315 rfl ?_
  refine r_iadd K dL_law_316 ?_
  refine r_xald K XO dL_law_317 g33_ ?_
  refine r_aload_n K dL_law_318 0 rfl rfl ?_
  refine r_iload_n K dL_law_319 3 rfl rfl ?_
  refine r_iconst (v := 3) K dL_law_320 rfl ?_
  refine r_iadd K dL_law_321 ?_
  refine r_xald K XO dL_law_322 g34_ ?_
  obtain ⟨r41_, h42_, g43_, hf⟩ := e_2 hf
  refine r_callV (av := [.int (xs (ix (x3 + 1))), .int (xs (ix (x3 + 2))), .int (xs (ix (x3 + 3)))]) (st := [.int r35_]) K lkL_26 mwX10_slip (conX10_slip (xs (ix (x3 + 1))) (xs (ix (x3 + 2))) (xs (ix (x3 + 3))) h36_ r41_ h42_ g43_) dL_law_323 rfl (Nat.le_of_ble_eq_true rfl) rfl rfl (Nat.le_of_ble_eq_true rfl) ?_
  refine r_icmp_eq (tgt := 1486) K dL_law_326 (by decide) (fun c44_ => ?_) (fun c44_ => ?_)
  · have hf := e_t hf c44_
    refine r_lv [0, 1, 2, 3] rfl ?_
    exact sL_law_1486 K Z xs L XO Q18 hQ18 x3 h42_ hf
  · have hf := e_f hf c44_
    refine r_iconst (v := 0) K dL_law_329 rfl ?_
    exact r_lawret K Z dL_law_330 hf
def fL_law_331 (xs : Nat → Int32) (L : Nat) (Q18 : Int32 → AH → Option (Int32 × AH)) (x3 : Int32) (h : AH) : Option (Int32 × AH) :=
  if inb (x3 + 1) L = true then if inb (x3 + 2) L = true then if inb (x3 + 3) L = true then bind2 (fX9_mend (xs (ix (x3 + 1))) (xs (ix (x3 + 2))) (xs (ix (x3 + 3))) h) fun r49_ h50_ => bind2 (fX10_mend (xs (ix (x3 + 1))) (xs (ix (x3 + 2))) (xs (ix (x3 + 3))) h50_) fun r55_ h56_ => if r49_ = r55_ then fL_law_1486 xs L Q18 x3 h56_ else some (0, h56_) else none else none else none
set_option maxRecDepth 10000 in
theorem sL_law_331 {G : GG} {E : EE} {h' : AH} (K : OK G E 99 RL cL_law 4) (Z : RTL G E) (xs : Nat → Int32) (L : Nat) (XO : XOK G E L xs) (Q18 : Int32 → AH → Option (Int32 × AH)) (hQ18 : ∀ (x3 : Int32) (h : AH), Q18 x3 h = some (1, h') → JJ G E 4 18 [(0, .ref 300), (1, .ref 0), (2, .ref 59), (3, .int x3)] [] h) (x3 : Int32) (h : AH) (hf : fL_law_331 xs L Q18 x3 h = some (1, h')) : JJ G E 4 331 [(0, .ref 300), (1, .ref 0), (2, .ref 59), (3, .int x3)] [] h := by
  unfold fL_law_331 at hf
  refine r_aload_n K dL_law_331 1 rfl rfl ?_
  refine r_aload_n K dL_law_332 0 rfl rfl ?_
  refine r_iload_n K dL_law_333 3 rfl rfl ?_
  refine r_iconst (v := 1) K dL_law_334 rfl ?_
  refine r_iadd K dL_law_335 ?_
  obtain ⟨g46_, hf⟩ := e_g hf
  refine r_xald K XO dL_law_336 g46_ ?_
  refine r_aload_n K dL_law_337 0 rfl rfl ?_
  refine r_iload_n K dL_law_338 3 rfl rfl ?_
  refine r_iconst (v := 2) K dL_law_339 rfl ?_
  refine r_iadd K dL_law_340 ?_
  obtain ⟨g47_, hf⟩ := e_g hf
  refine r_xald K XO dL_law_341 g47_ ?_
  refine r_aload_n K dL_law_342 0 rfl rfl ?_
  refine r_iload_n K dL_law_343 3 rfl rfl ?_
  refine r_iconst (v := 3) K dL_law_344 rfl ?_
  refine r_iadd K dL_law_345 ?_
  obtain ⟨g48_, hf⟩ := e_g hf
  refine r_xald K XO dL_law_346 g48_ ?_
  obtain ⟨r49_, h50_, g51_, hf⟩ := e_2 hf
  refine r_callV (av := [.int (xs (ix (x3 + 1))), .int (xs (ix (x3 + 2))), .int (xs (ix (x3 + 3)))]) (st := []) K lkL_27 mwX9_mend (conX9_mend (xs (ix (x3 + 1))) (xs (ix (x3 + 2))) (xs (ix (x3 + 3))) h r49_ h50_ g51_) dL_law_347 rfl (Nat.le_of_ble_eq_true rfl) rfl rfl (Nat.le_of_ble_eq_true rfl) ?_
  refine r_aload_n K dL_law_350 2 rfl rfl ?_
  refine r_aload_n K dL_law_351 0 rfl rfl ?_
  refine r_iload_n K dL_law_352 3 rfl rfl ?_
  refine r_iconst (v := 1) K dL_law_353 rfl ?_
  refine r_iadd K dL_law_354 ?_
  refine r_xald K XO dL_law_355 g46_ ?_
  refine r_aload_n K dL_law_356 0 rfl rfl ?_
  refine r_iload_n K dL_law_357 3 rfl rfl ?_
  refine r_iconst (v := 2) K dL_law_358 rfl ?_
  refine r_iadd K dL_law_359 ?_
  refine r_xald K XO dL_law_360 g47_ ?_
  refine r_aload_n K dL_law_361 0 rfl rfl ?_
  refine r_iload_n K dL_law_362 3 rfl rfl ?_
  refine r_iconst (v := 3) K dL_law_363 rfl ?_
  refine r_iadd K dL_law_364 ?_
  refine r_xald K XO dL_law_365 g48_ ?_
  obtain ⟨r55_, h56_, g57_, hf⟩ := e_2 hf
  refine r_callV (av := [.int (xs (ix (x3 + 1))), .int (xs (ix (x3 + 2))), .int (xs (ix (x3 + 3)))]) (st := [.int r49_]) K lkL_30 mwX10_mend (conX10_mend (xs (ix (x3 + 1))) (xs (ix (x3 + 2))) (xs (ix (x3 + 3))) h50_ r55_ h56_ g57_) dL_law_366 rfl (Nat.le_of_ble_eq_true rfl) rfl rfl (Nat.le_of_ble_eq_true rfl) ?_
  refine r_icmp_eq (tgt := 1486) K dL_law_369 (by decide) (fun c58_ => ?_) (fun c58_ => ?_)
  · have hf := e_t hf c58_
    refine r_lv [0, 1, 2, 3] rfl ?_
    exact sL_law_1486 K Z xs L XO Q18 hQ18 x3 h56_ hf
  · have hf := e_f hf c58_
    refine r_iconst (v := 0) K dL_law_372 rfl ?_
    exact r_lawret K Z dL_law_373 hf
def fL_law_374 (xs : Nat → Int32) (L : Nat) (Q18 : Int32 → AH → Option (Int32 × AH)) (x3 : Int32) (h : AH) : Option (Int32 × AH) :=
  if inb (x3 + 1) L = true then if inb (x3 + 2) L = true then bind2 (fX9_of (xs (ix (x3 + 1))) (xs (ix (x3 + 2))) h) fun r62_ h63_ => bind2 (fX10_of (xs (ix (x3 + 1))) (xs (ix (x3 + 2))) h63_) fun r67_ h68_ => if r62_ = r67_ then fL_law_1486 xs L Q18 x3 h68_ else some (0, h68_) else none else none
set_option maxRecDepth 10000 in
theorem sL_law_374 {G : GG} {E : EE} {h' : AH} (K : OK G E 99 RL cL_law 4) (Z : RTL G E) (xs : Nat → Int32) (L : Nat) (XO : XOK G E L xs) (Q18 : Int32 → AH → Option (Int32 × AH)) (hQ18 : ∀ (x3 : Int32) (h : AH), Q18 x3 h = some (1, h') → JJ G E 4 18 [(0, .ref 300), (1, .ref 0), (2, .ref 59), (3, .int x3)] [] h) (x3 : Int32) (h : AH) (hf : fL_law_374 xs L Q18 x3 h = some (1, h')) : JJ G E 4 374 [(0, .ref 300), (1, .ref 0), (2, .ref 59), (3, .int x3)] [] h := by
  unfold fL_law_374 at hf
  refine r_aload_n K dL_law_374 1 rfl rfl ?_
  refine r_aload_n K dL_law_375 0 rfl rfl ?_
  refine r_iload_n K dL_law_376 3 rfl rfl ?_
  refine r_iconst (v := 1) K dL_law_377 rfl ?_
  refine r_iadd K dL_law_378 ?_
  obtain ⟨g60_, hf⟩ := e_g hf
  refine r_xald K XO dL_law_379 g60_ ?_
  refine r_aload_n K dL_law_380 0 rfl rfl ?_
  refine r_iload_n K dL_law_381 3 rfl rfl ?_
  refine r_iconst (v := 2) K dL_law_382 rfl ?_
  refine r_iadd K dL_law_383 ?_
  obtain ⟨g61_, hf⟩ := e_g hf
  refine r_xald K XO dL_law_384 g61_ ?_
  obtain ⟨r62_, h63_, g64_, hf⟩ := e_2 hf
  refine r_callV (av := [.int (xs (ix (x3 + 1))), .int (xs (ix (x3 + 2)))]) (st := []) K lkL_31 mwX9_of (conX9_of (xs (ix (x3 + 1))) (xs (ix (x3 + 2))) h r62_ h63_ g64_) dL_law_385 rfl (Nat.le_of_ble_eq_true rfl) rfl rfl (Nat.le_of_ble_eq_true rfl) ?_
  refine r_aload_n K dL_law_388 2 rfl rfl ?_
  refine r_aload_n K dL_law_389 0 rfl rfl ?_
  refine r_iload_n K dL_law_390 3 rfl rfl ?_
  refine r_iconst (v := 1) K dL_law_391 rfl ?_
  refine r_iadd K dL_law_392 ?_
  refine r_xald K XO dL_law_393 g60_ ?_
  refine r_aload_n K dL_law_394 0 rfl rfl ?_
  refine r_iload_n K dL_law_395 3 rfl rfl ?_
  refine r_iconst (v := 2) K dL_law_396 rfl ?_
  refine r_iadd K dL_law_397 ?_
  refine r_xald K XO dL_law_398 g61_ ?_
  obtain ⟨r67_, h68_, g69_, hf⟩ := e_2 hf
  refine r_callV (av := [.int (xs (ix (x3 + 1))), .int (xs (ix (x3 + 2)))]) (st := [.int r62_]) K lkL_34 mwX10_of (conX10_of (xs (ix (x3 + 1))) (xs (ix (x3 + 2))) h63_ r67_ h68_ g69_) dL_law_399 rfl (Nat.le_of_ble_eq_true rfl) rfl rfl (Nat.le_of_ble_eq_true rfl) ?_
  refine r_icmp_eq (tgt := 1486) K dL_law_402 (by decide) (fun c70_ => ?_) (fun c70_ => ?_)
  · have hf := e_t hf c70_
    refine r_lv [0, 1, 2, 3] rfl ?_
    exact sL_law_1486 K Z xs L XO Q18 hQ18 x3 h68_ hf
  · have hf := e_f hf c70_
    refine r_iconst (v := 0) K dL_law_405 rfl ?_
    exact r_lawret K Z dL_law_406 hf
def fL_law_407 (xs : Nat → Int32) (L : Nat) (Q18 : Int32 → AH → Option (Int32 × AH)) (x3 : Int32) (h : AH) : Option (Int32 × AH) :=
  if inb (x3 + 1) L = true then bind2 (fX9_feed (xs (ix (x3 + 1))) h) fun r73_ h74_ => bind2 (fX10_feed (xs (ix (x3 + 1))) h74_) fun r77_ h78_ => if r73_ = r77_ then fL_law_1486 xs L Q18 x3 h78_ else some (0, h78_) else none
set_option maxRecDepth 10000 in
theorem sL_law_407 {G : GG} {E : EE} {h' : AH} (K : OK G E 99 RL cL_law 4) (Z : RTL G E) (xs : Nat → Int32) (L : Nat) (XO : XOK G E L xs) (Q18 : Int32 → AH → Option (Int32 × AH)) (hQ18 : ∀ (x3 : Int32) (h : AH), Q18 x3 h = some (1, h') → JJ G E 4 18 [(0, .ref 300), (1, .ref 0), (2, .ref 59), (3, .int x3)] [] h) (x3 : Int32) (h : AH) (hf : fL_law_407 xs L Q18 x3 h = some (1, h')) : JJ G E 4 407 [(0, .ref 300), (1, .ref 0), (2, .ref 59), (3, .int x3)] [] h := by
  unfold fL_law_407 at hf
  refine r_aload_n K dL_law_407 1 rfl rfl ?_
  refine r_aload_n K dL_law_408 0 rfl rfl ?_
  refine r_iload_n K dL_law_409 3 rfl rfl ?_
  refine r_iconst (v := 1) K dL_law_410 rfl ?_
  refine r_iadd K dL_law_411 ?_
  obtain ⟨g72_, hf⟩ := e_g hf
  refine r_xald K XO dL_law_412 g72_ ?_
  obtain ⟨r73_, h74_, g75_, hf⟩ := e_2 hf
  refine r_callV (av := [.int (xs (ix (x3 + 1)))]) (st := []) K lkL_35 mwX9_feed (conX9_feed (xs (ix (x3 + 1))) h r73_ h74_ g75_) dL_law_413 rfl (Nat.le_of_ble_eq_true rfl) rfl rfl (Nat.le_of_ble_eq_true rfl) ?_
  refine r_aload_n K dL_law_416 2 rfl rfl ?_
  refine r_aload_n K dL_law_417 0 rfl rfl ?_
  refine r_iload_n K dL_law_418 3 rfl rfl ?_
  refine r_iconst (v := 1) K dL_law_419 rfl ?_
  refine r_iadd K dL_law_420 ?_
  refine r_xald K XO dL_law_421 g72_ ?_
  obtain ⟨r77_, h78_, g79_, hf⟩ := e_2 hf
  refine r_callV (av := [.int (xs (ix (x3 + 1)))]) (st := [.int r73_]) K lkL_39 mwX10_feed (conX10_feed (xs (ix (x3 + 1))) h74_ r77_ h78_ g79_) dL_law_422 rfl (Nat.le_of_ble_eq_true rfl) rfl rfl (Nat.le_of_ble_eq_true rfl) ?_
  refine r_icmp_eq (tgt := 1486) K dL_law_425 (by decide) (fun c80_ => ?_) (fun c80_ => ?_)
  · have hf := e_t hf c80_
    refine r_lv [0, 1, 2, 3] rfl ?_
    exact sL_law_1486 K Z xs L XO Q18 hQ18 x3 h78_ hf
  · have hf := e_f hf c80_
    refine r_iconst (v := 0) K dL_law_428 rfl ?_
    exact r_lawret K Z dL_law_429 hf
def fL_law_430 (xs : Nat → Int32) (L : Nat) (Q18 : Int32 → AH → Option (Int32 × AH)) (x3 : Int32) (h : AH) : Option (Int32 × AH) :=
  bind2 (fX9_law  h) fun r82_ h83_ => bind2 (fX10_law  h83_) fun r85_ h86_ => if r82_ = r85_ then fL_law_1486 xs L Q18 x3 h86_ else some (0, h86_)
set_option maxRecDepth 10000 in
theorem sL_law_430 {G : GG} {E : EE} {h' : AH} (K : OK G E 99 RL cL_law 4) (Z : RTL G E) (xs : Nat → Int32) (L : Nat) (XO : XOK G E L xs) (Q18 : Int32 → AH → Option (Int32 × AH)) (hQ18 : ∀ (x3 : Int32) (h : AH), Q18 x3 h = some (1, h') → JJ G E 4 18 [(0, .ref 300), (1, .ref 0), (2, .ref 59), (3, .int x3)] [] h) (x3 : Int32) (h : AH) (hf : fL_law_430 xs L Q18 x3 h = some (1, h')) : JJ G E 4 430 [(0, .ref 300), (1, .ref 0), (2, .ref 59), (3, .int x3)] [] h := by
  unfold fL_law_430 at hf
  refine r_aload_n K dL_law_430 1 rfl rfl ?_
  obtain ⟨r82_, h83_, g84_, hf⟩ := e_2 hf
  refine r_callV (av := []) (st := []) K lkL_40 mwX9_law (conX9_law  h r82_ h83_ g84_) dL_law_431 rfl (Nat.le_of_ble_eq_true rfl) rfl rfl (Nat.le_of_ble_eq_true rfl) ?_
  refine r_aload_n K dL_law_434 2 rfl rfl ?_
  obtain ⟨r85_, h86_, g87_, hf⟩ := e_2 hf
  refine r_callV (av := []) (st := [.int r82_]) K lkL_44 mwX10_law (conX10_law  h83_ r85_ h86_ g87_) dL_law_435 rfl (Nat.le_of_ble_eq_true rfl) rfl rfl (Nat.le_of_ble_eq_true rfl) ?_
  refine r_icmp_eq (tgt := 1486) K dL_law_438 (by decide) (fun c88_ => ?_) (fun c88_ => ?_)
  · have hf := e_t hf c88_
    refine r_lv [0, 1, 2, 3] rfl ?_
    exact sL_law_1486 K Z xs L XO Q18 hQ18 x3 h86_ hf
  · have hf := e_f hf c88_
    refine r_iconst (v := 0) K dL_law_441 rfl ?_
    exact r_lawret K Z dL_law_442 hf
def fL_law_443 (xs : Nat → Int32) (L : Nat) (Q18 : Int32 → AH → Option (Int32 × AH)) (x3 : Int32) (h : AH) : Option (Int32 × AH) :=
  if inb (x3 + 1) L = true then if inb (x3 + 2) L = true then if inb (x3 + 3) L = true then bind2 (fX9_later (xs (ix (x3 + 1))) (xs (ix (x3 + 2))) (xs (ix (x3 + 3))) h) fun r93_ h94_ => bind2 (fX10_later (xs (ix (x3 + 1))) (xs (ix (x3 + 2))) (xs (ix (x3 + 3))) h94_) fun r99_ h100_ => if r93_ = r99_ then fL_law_1486 xs L Q18 x3 h100_ else some (0, h100_) else none else none else none
set_option maxRecDepth 10000 in
theorem sL_law_443 {G : GG} {E : EE} {h' : AH} (K : OK G E 99 RL cL_law 4) (Z : RTL G E) (xs : Nat → Int32) (L : Nat) (XO : XOK G E L xs) (Q18 : Int32 → AH → Option (Int32 × AH)) (hQ18 : ∀ (x3 : Int32) (h : AH), Q18 x3 h = some (1, h') → JJ G E 4 18 [(0, .ref 300), (1, .ref 0), (2, .ref 59), (3, .int x3)] [] h) (x3 : Int32) (h : AH) (hf : fL_law_443 xs L Q18 x3 h = some (1, h')) : JJ G E 4 443 [(0, .ref 300), (1, .ref 0), (2, .ref 59), (3, .int x3)] [] h := by
  unfold fL_law_443 at hf
  refine r_aload_n K dL_law_443 1 rfl rfl ?_
  refine r_aload_n K dL_law_444 0 rfl rfl ?_
  refine r_iload_n K dL_law_445 3 rfl rfl ?_
  refine r_iconst (v := 1) K dL_law_446 rfl ?_
  refine r_iadd K dL_law_447 ?_
  obtain ⟨g90_, hf⟩ := e_g hf
  refine r_xald K XO dL_law_448 g90_ ?_
  refine r_aload_n K dL_law_449 0 rfl rfl ?_
  refine r_iload_n K dL_law_450 3 rfl rfl ?_
  refine r_iconst (v := 2) K dL_law_451 rfl ?_
  refine r_iadd K dL_law_452 ?_
  obtain ⟨g91_, hf⟩ := e_g hf
  refine r_xald K XO dL_law_453 g91_ ?_
  refine r_aload_n K dL_law_454 0 rfl rfl ?_
  refine r_iload_n K dL_law_455 3 rfl rfl ?_
  refine r_iconst (v := 3) K dL_law_456 rfl ?_
  refine r_iadd K dL_law_457 ?_
  obtain ⟨g92_, hf⟩ := e_g hf
  refine r_xald K XO dL_law_458 g92_ ?_
  obtain ⟨r93_, h94_, g95_, hf⟩ := e_2 hf
  refine r_callV (av := [.int (xs (ix (x3 + 1))), .int (xs (ix (x3 + 2))), .int (xs (ix (x3 + 3)))]) (st := []) K lkL_45 mwX9_later (conX9_later (xs (ix (x3 + 1))) (xs (ix (x3 + 2))) (xs (ix (x3 + 3))) h r93_ h94_ g95_) dL_law_459 rfl (Nat.le_of_ble_eq_true rfl) rfl rfl (Nat.le_of_ble_eq_true rfl) ?_
  refine r_aload_n K dL_law_462 2 rfl rfl ?_
  refine r_aload_n K dL_law_463 0 rfl rfl ?_
  refine r_iload_n K dL_law_464 3 rfl rfl ?_
  refine r_iconst (v := 1) K dL_law_465 rfl ?_
  refine r_iadd K dL_law_466 ?_
  refine r_xald K XO dL_law_467 g90_ ?_
  refine r_aload_n K dL_law_468 0 rfl rfl ?_
  refine r_iload_n K dL_law_469 3 rfl rfl ?_
  refine r_iconst (v := 2) K dL_law_470 rfl ?_
  refine r_iadd K dL_law_471 ?_
  refine r_xald K XO dL_law_472 g91_ ?_
  refine r_aload_n K dL_law_473 0 rfl rfl ?_
  refine r_iload_n K dL_law_474 3 rfl rfl ?_
  refine r_iconst (v := 3) K dL_law_475 rfl ?_
  refine r_iadd K dL_law_476 ?_
  refine r_xald K XO dL_law_477 g92_ ?_
  obtain ⟨r99_, h100_, g101_, hf⟩ := e_2 hf
  refine r_callV (av := [.int (xs (ix (x3 + 1))), .int (xs (ix (x3 + 2))), .int (xs (ix (x3 + 3)))]) (st := [.int r93_]) K lkL_48 mwX10_later (conX10_later (xs (ix (x3 + 1))) (xs (ix (x3 + 2))) (xs (ix (x3 + 3))) h94_ r99_ h100_ g101_) dL_law_478 rfl (Nat.le_of_ble_eq_true rfl) rfl rfl (Nat.le_of_ble_eq_true rfl) ?_
  refine r_icmp_eq (tgt := 1486) K dL_law_481 (by decide) (fun c102_ => ?_) (fun c102_ => ?_)
  · have hf := e_t hf c102_
    refine r_lv [0, 1, 2, 3] rfl ?_
    exact sL_law_1486 K Z xs L XO Q18 hQ18 x3 h100_ hf
  · have hf := e_f hf c102_
    refine r_iconst (v := 0) K dL_law_484 rfl ?_
    exact r_lawret K Z dL_law_485 hf
def fL_law_486 (xs : Nat → Int32) (L : Nat) (Q18 : Int32 → AH → Option (Int32 × AH)) (x3 : Int32) (h : AH) : Option (Int32 × AH) :=
  if inb (x3 + 1) L = true then bind2 (fX9_first (xs (ix (x3 + 1))) h) fun r105_ h106_ => bind2 (fX10_first (xs (ix (x3 + 1))) h106_) fun r109_ h110_ => if r105_ = r109_ then fL_law_1486 xs L Q18 x3 h110_ else some (0, h110_) else none
set_option maxRecDepth 10000 in
theorem sL_law_486 {G : GG} {E : EE} {h' : AH} (K : OK G E 99 RL cL_law 4) (Z : RTL G E) (xs : Nat → Int32) (L : Nat) (XO : XOK G E L xs) (Q18 : Int32 → AH → Option (Int32 × AH)) (hQ18 : ∀ (x3 : Int32) (h : AH), Q18 x3 h = some (1, h') → JJ G E 4 18 [(0, .ref 300), (1, .ref 0), (2, .ref 59), (3, .int x3)] [] h) (x3 : Int32) (h : AH) (hf : fL_law_486 xs L Q18 x3 h = some (1, h')) : JJ G E 4 486 [(0, .ref 300), (1, .ref 0), (2, .ref 59), (3, .int x3)] [] h := by
  unfold fL_law_486 at hf
  refine r_aload_n K dL_law_486 1 rfl rfl ?_
  refine r_aload_n K dL_law_487 0 rfl rfl ?_
  refine r_iload_n K dL_law_488 3 rfl rfl ?_
  refine r_iconst (v := 1) K dL_law_489 rfl ?_
  refine r_iadd K dL_law_490 ?_
  obtain ⟨g104_, hf⟩ := e_g hf
  refine r_xald K XO dL_law_491 g104_ ?_
  obtain ⟨r105_, h106_, g107_, hf⟩ := e_2 hf
  refine r_callV (av := [.int (xs (ix (x3 + 1)))]) (st := []) K lkL_49 mwX9_first (conX9_first (xs (ix (x3 + 1))) h r105_ h106_ g107_) dL_law_492 rfl (Nat.le_of_ble_eq_true rfl) rfl rfl (Nat.le_of_ble_eq_true rfl) ?_
  refine r_aload_n K dL_law_495 2 rfl rfl ?_
  refine r_aload_n K dL_law_496 0 rfl rfl ?_
  refine r_iload_n K dL_law_497 3 rfl rfl ?_
  refine r_iconst (v := 1) K dL_law_498 rfl ?_
  refine r_iadd K dL_law_499 ?_
  refine r_xald K XO dL_law_500 g104_ ?_
  obtain ⟨r109_, h110_, g111_, hf⟩ := e_2 hf
  refine r_callV (av := [.int (xs (ix (x3 + 1)))]) (st := [.int r105_]) K lkL_52 mwX10_first (conX10_first (xs (ix (x3 + 1))) h106_ r109_ h110_ g111_) dL_law_501 rfl (Nat.le_of_ble_eq_true rfl) rfl rfl (Nat.le_of_ble_eq_true rfl) ?_
  refine r_icmp_eq (tgt := 1486) K dL_law_504 (by decide) (fun c112_ => ?_) (fun c112_ => ?_)
  · have hf := e_t hf c112_
    refine r_lv [0, 1, 2, 3] rfl ?_
    exact sL_law_1486 K Z xs L XO Q18 hQ18 x3 h110_ hf
  · have hf := e_f hf c112_
    refine r_iconst (v := 0) K dL_law_507 rfl ?_
    exact r_lawret K Z dL_law_508 hf
def fL_law_509 (xs : Nat → Int32) (L : Nat) (Q18 : Int32 → AH → Option (Int32 × AH)) (x3 : Int32) (h : AH) : Option (Int32 × AH) :=
  if inb (x3 + 1) L = true then if inb (x3 + 2) L = true then bind2 (fX9_peak (xs (ix (x3 + 1))) (xs (ix (x3 + 2))) h) fun r116_ h117_ => bind2 (fX10_peak (xs (ix (x3 + 1))) (xs (ix (x3 + 2))) h117_) fun r121_ h122_ => if r116_ = r121_ then fL_law_1486 xs L Q18 x3 h122_ else some (0, h122_) else none else none
set_option maxRecDepth 10000 in
theorem sL_law_509 {G : GG} {E : EE} {h' : AH} (K : OK G E 99 RL cL_law 4) (Z : RTL G E) (xs : Nat → Int32) (L : Nat) (XO : XOK G E L xs) (Q18 : Int32 → AH → Option (Int32 × AH)) (hQ18 : ∀ (x3 : Int32) (h : AH), Q18 x3 h = some (1, h') → JJ G E 4 18 [(0, .ref 300), (1, .ref 0), (2, .ref 59), (3, .int x3)] [] h) (x3 : Int32) (h : AH) (hf : fL_law_509 xs L Q18 x3 h = some (1, h')) : JJ G E 4 509 [(0, .ref 300), (1, .ref 0), (2, .ref 59), (3, .int x3)] [] h := by
  unfold fL_law_509 at hf
  refine r_aload_n K dL_law_509 1 rfl rfl ?_
  refine r_aload_n K dL_law_510 0 rfl rfl ?_
  refine r_iload_n K dL_law_511 3 rfl rfl ?_
  refine r_iconst (v := 1) K dL_law_512 rfl ?_
  refine r_iadd K dL_law_513 ?_
  obtain ⟨g114_, hf⟩ := e_g hf
  refine r_xald K XO dL_law_514 g114_ ?_
  refine r_aload_n K dL_law_515 0 rfl rfl ?_
  refine r_iload_n K dL_law_516 3 rfl rfl ?_
  refine r_iconst (v := 2) K dL_law_517 rfl ?_
  refine r_iadd K dL_law_518 ?_
  obtain ⟨g115_, hf⟩ := e_g hf
  refine r_xald K XO dL_law_519 g115_ ?_
  obtain ⟨r116_, h117_, g118_, hf⟩ := e_2 hf
  refine r_callV (av := [.int (xs (ix (x3 + 1))), .int (xs (ix (x3 + 2)))]) (st := []) K lkL_53 mwX9_peak (conX9_peak (xs (ix (x3 + 1))) (xs (ix (x3 + 2))) h r116_ h117_ g118_) dL_law_520 rfl (Nat.le_of_ble_eq_true rfl) rfl rfl (Nat.le_of_ble_eq_true rfl) ?_
  refine r_aload_n K dL_law_523 2 rfl rfl ?_
  refine r_aload_n K dL_law_524 0 rfl rfl ?_
  refine r_iload_n K dL_law_525 3 rfl rfl ?_
  refine r_iconst (v := 1) K dL_law_526 rfl ?_
  refine r_iadd K dL_law_527 ?_
  refine r_xald K XO dL_law_528 g114_ ?_
  refine r_aload_n K dL_law_529 0 rfl rfl ?_
  refine r_iload_n K dL_law_530 3 rfl rfl ?_
  refine r_iconst (v := 2) K dL_law_531 rfl ?_
  refine r_iadd K dL_law_532 ?_
  refine r_xald K XO dL_law_533 g115_ ?_
  obtain ⟨r121_, h122_, g123_, hf⟩ := e_2 hf
  refine r_callV (av := [.int (xs (ix (x3 + 1))), .int (xs (ix (x3 + 2)))]) (st := [.int r116_]) K lkL_56 mwX10_peak (conX10_peak (xs (ix (x3 + 1))) (xs (ix (x3 + 2))) h117_ r121_ h122_ g123_) dL_law_534 rfl (Nat.le_of_ble_eq_true rfl) rfl rfl (Nat.le_of_ble_eq_true rfl) ?_
  refine r_icmp_eq (tgt := 1486) K dL_law_537 (by decide) (fun c124_ => ?_) (fun c124_ => ?_)
  · have hf := e_t hf c124_
    refine r_lv [0, 1, 2, 3] rfl ?_
    exact sL_law_1486 K Z xs L XO Q18 hQ18 x3 h122_ hf
  · have hf := e_f hf c124_
    refine r_iconst (v := 0) K dL_law_540 rfl ?_
    exact r_lawret K Z dL_law_541 hf
def fL_law_542 (xs : Nat → Int32) (L : Nat) (Q18 : Int32 → AH → Option (Int32 × AH)) (x3 : Int32) (h : AH) : Option (Int32 × AH) :=
  if inb (x3 + 1) L = true then if inb (x3 + 2) L = true then bind2 (fX9_goesAs (xs (ix (x3 + 1))) (xs (ix (x3 + 2))) h) fun r128_ h129_ => bind2 (fX10_goesAs (xs (ix (x3 + 1))) (xs (ix (x3 + 2))) h129_) fun r133_ h134_ => if r128_ = r133_ then fL_law_1486 xs L Q18 x3 h134_ else some (0, h134_) else none else none
set_option maxRecDepth 10000 in
theorem sL_law_542 {G : GG} {E : EE} {h' : AH} (K : OK G E 99 RL cL_law 4) (Z : RTL G E) (xs : Nat → Int32) (L : Nat) (XO : XOK G E L xs) (Q18 : Int32 → AH → Option (Int32 × AH)) (hQ18 : ∀ (x3 : Int32) (h : AH), Q18 x3 h = some (1, h') → JJ G E 4 18 [(0, .ref 300), (1, .ref 0), (2, .ref 59), (3, .int x3)] [] h) (x3 : Int32) (h : AH) (hf : fL_law_542 xs L Q18 x3 h = some (1, h')) : JJ G E 4 542 [(0, .ref 300), (1, .ref 0), (2, .ref 59), (3, .int x3)] [] h := by
  unfold fL_law_542 at hf
  refine r_aload_n K dL_law_542 1 rfl rfl ?_
  refine r_aload_n K dL_law_543 0 rfl rfl ?_
  refine r_iload_n K dL_law_544 3 rfl rfl ?_
  refine r_iconst (v := 1) K dL_law_545 rfl ?_
  refine r_iadd K dL_law_546 ?_
  obtain ⟨g126_, hf⟩ := e_g hf
  refine r_xald K XO dL_law_547 g126_ ?_
  refine r_aload_n K dL_law_548 0 rfl rfl ?_
  refine r_iload_n K dL_law_549 3 rfl rfl ?_
  refine r_iconst (v := 2) K dL_law_550 rfl ?_
  refine r_iadd K dL_law_551 ?_
  obtain ⟨g127_, hf⟩ := e_g hf
  refine r_xald K XO dL_law_552 g127_ ?_
  obtain ⟨r128_, h129_, g130_, hf⟩ := e_2 hf
  refine r_callV (av := [.int (xs (ix (x3 + 1))), .int (xs (ix (x3 + 2)))]) (st := []) K lkL_57 mwX9_goesAs (conX9_goesAs (xs (ix (x3 + 1))) (xs (ix (x3 + 2))) h r128_ h129_ g130_) dL_law_553 rfl (Nat.le_of_ble_eq_true rfl) rfl rfl (Nat.le_of_ble_eq_true rfl) ?_
  refine r_aload_n K dL_law_556 2 rfl rfl ?_
  refine r_aload_n K dL_law_557 0 rfl rfl ?_
  refine r_iload_n K dL_law_558 3 rfl rfl ?_
  refine r_iconst (v := 1) K dL_law_559 rfl ?_
  refine r_iadd K dL_law_560 ?_
  refine r_xald K XO dL_law_561 g126_ ?_
  refine r_aload_n K dL_law_562 0 rfl rfl ?_
  refine r_iload_n K dL_law_563 3 rfl rfl ?_
  refine r_iconst (v := 2) K dL_law_564 rfl ?_
  refine r_iadd K dL_law_565 ?_
  refine r_xald K XO dL_law_566 g127_ ?_
  obtain ⟨r133_, h134_, g135_, hf⟩ := e_2 hf
  refine r_callV (av := [.int (xs (ix (x3 + 1))), .int (xs (ix (x3 + 2)))]) (st := [.int r128_]) K lkL_60 mwX10_goesAs (conX10_goesAs (xs (ix (x3 + 1))) (xs (ix (x3 + 2))) h129_ r133_ h134_ g135_) dL_law_567 rfl (Nat.le_of_ble_eq_true rfl) rfl rfl (Nat.le_of_ble_eq_true rfl) ?_
  refine r_icmp_eq (tgt := 1486) K dL_law_570 (by decide) (fun c136_ => ?_) (fun c136_ => ?_)
  · have hf := e_t hf c136_
    refine r_lv [0, 1, 2, 3] rfl ?_
    exact sL_law_1486 K Z xs L XO Q18 hQ18 x3 h134_ hf
  · have hf := e_f hf c136_
    refine r_iconst (v := 0) K dL_law_573 rfl ?_
    exact r_lawret K Z dL_law_574 hf
def fL_law_575 (xs : Nat → Int32) (L : Nat) (Q18 : Int32 → AH → Option (Int32 × AH)) (x3 : Int32) (h : AH) : Option (Int32 × AH) :=
  if inb (x3 + 1) L = true then if inb (x3 + 2) L = true then bind2 (fX9_goesWhen (xs (ix (x3 + 1))) (xs (ix (x3 + 2))) h) fun r140_ h141_ => bind2 (fX10_goesWhen (xs (ix (x3 + 1))) (xs (ix (x3 + 2))) h141_) fun r145_ h146_ => if r140_ = r145_ then fL_law_1486 xs L Q18 x3 h146_ else some (0, h146_) else none else none
set_option maxRecDepth 10000 in
theorem sL_law_575 {G : GG} {E : EE} {h' : AH} (K : OK G E 99 RL cL_law 4) (Z : RTL G E) (xs : Nat → Int32) (L : Nat) (XO : XOK G E L xs) (Q18 : Int32 → AH → Option (Int32 × AH)) (hQ18 : ∀ (x3 : Int32) (h : AH), Q18 x3 h = some (1, h') → JJ G E 4 18 [(0, .ref 300), (1, .ref 0), (2, .ref 59), (3, .int x3)] [] h) (x3 : Int32) (h : AH) (hf : fL_law_575 xs L Q18 x3 h = some (1, h')) : JJ G E 4 575 [(0, .ref 300), (1, .ref 0), (2, .ref 59), (3, .int x3)] [] h := by
  unfold fL_law_575 at hf
  refine r_aload_n K dL_law_575 1 rfl rfl ?_
  refine r_aload_n K dL_law_576 0 rfl rfl ?_
  refine r_iload_n K dL_law_577 3 rfl rfl ?_
  refine r_iconst (v := 1) K dL_law_578 rfl ?_
  refine r_iadd K dL_law_579 ?_
  obtain ⟨g138_, hf⟩ := e_g hf
  refine r_xald K XO dL_law_580 g138_ ?_
  refine r_aload_n K dL_law_581 0 rfl rfl ?_
  refine r_iload_n K dL_law_582 3 rfl rfl ?_
  refine r_iconst (v := 2) K dL_law_583 rfl ?_
  refine r_iadd K dL_law_584 ?_
  obtain ⟨g139_, hf⟩ := e_g hf
  refine r_xald K XO dL_law_585 g139_ ?_
  obtain ⟨r140_, h141_, g142_, hf⟩ := e_2 hf
  refine r_callV (av := [.int (xs (ix (x3 + 1))), .int (xs (ix (x3 + 2)))]) (st := []) K lkL_61 mwX9_goesWhen (conX9_goesWhen (xs (ix (x3 + 1))) (xs (ix (x3 + 2))) h r140_ h141_ g142_) dL_law_586 rfl (Nat.le_of_ble_eq_true rfl) rfl rfl (Nat.le_of_ble_eq_true rfl) ?_
  refine r_aload_n K dL_law_589 2 rfl rfl ?_
  refine r_aload_n K dL_law_590 0 rfl rfl ?_
  refine r_iload_n K dL_law_591 3 rfl rfl ?_
  refine r_iconst (v := 1) K dL_law_592 rfl ?_
  refine r_iadd K dL_law_593 ?_
  refine r_xald K XO dL_law_594 g138_ ?_
  refine r_aload_n K dL_law_595 0 rfl rfl ?_
  refine r_iload_n K dL_law_596 3 rfl rfl ?_
  refine r_iconst (v := 2) K dL_law_597 rfl ?_
  refine r_iadd K dL_law_598 ?_
  refine r_xald K XO dL_law_599 g139_ ?_
  obtain ⟨r145_, h146_, g147_, hf⟩ := e_2 hf
  refine r_callV (av := [.int (xs (ix (x3 + 1))), .int (xs (ix (x3 + 2)))]) (st := [.int r140_]) K lkL_64 mwX10_goesWhen (conX10_goesWhen (xs (ix (x3 + 1))) (xs (ix (x3 + 2))) h141_ r145_ h146_ g147_) dL_law_600 rfl (Nat.le_of_ble_eq_true rfl) rfl rfl (Nat.le_of_ble_eq_true rfl) ?_
  refine r_icmp_eq (tgt := 1486) K dL_law_603 (by decide) (fun c148_ => ?_) (fun c148_ => ?_)
  · have hf := e_t hf c148_
    refine r_lv [0, 1, 2, 3] rfl ?_
    exact sL_law_1486 K Z xs L XO Q18 hQ18 x3 h146_ hf
  · have hf := e_f hf c148_
    refine r_iconst (v := 0) K dL_law_606 rfl ?_
    exact r_lawret K Z dL_law_607 hf
def fL_law_608 (xs : Nat → Int32) (L : Nat) (Q18 : Int32 → AH → Option (Int32 × AH)) (x3 : Int32) (h : AH) : Option (Int32 × AH) :=
  if inb (x3 + 1) L = true then bind2 (fX9_waits (xs (ix (x3 + 1))) h) fun r151_ h152_ => bind2 (fX10_waits (xs (ix (x3 + 1))) h152_) fun r155_ h156_ => if r151_ = r155_ then fL_law_1486 xs L Q18 x3 h156_ else some (0, h156_) else none
set_option maxRecDepth 10000 in
theorem sL_law_608 {G : GG} {E : EE} {h' : AH} (K : OK G E 99 RL cL_law 4) (Z : RTL G E) (xs : Nat → Int32) (L : Nat) (XO : XOK G E L xs) (Q18 : Int32 → AH → Option (Int32 × AH)) (hQ18 : ∀ (x3 : Int32) (h : AH), Q18 x3 h = some (1, h') → JJ G E 4 18 [(0, .ref 300), (1, .ref 0), (2, .ref 59), (3, .int x3)] [] h) (x3 : Int32) (h : AH) (hf : fL_law_608 xs L Q18 x3 h = some (1, h')) : JJ G E 4 608 [(0, .ref 300), (1, .ref 0), (2, .ref 59), (3, .int x3)] [] h := by
  unfold fL_law_608 at hf
  refine r_aload_n K dL_law_608 1 rfl rfl ?_
  refine r_aload_n K dL_law_609 0 rfl rfl ?_
  refine r_iload_n K dL_law_610 3 rfl rfl ?_
  refine r_iconst (v := 1) K dL_law_611 rfl ?_
  refine r_iadd K dL_law_612 ?_
  obtain ⟨g150_, hf⟩ := e_g hf
  refine r_xald K XO dL_law_613 g150_ ?_
  obtain ⟨r151_, h152_, g153_, hf⟩ := e_2 hf
  refine r_callV (av := [.int (xs (ix (x3 + 1)))]) (st := []) K lkL_65 mwX9_waits (conX9_waits (xs (ix (x3 + 1))) h r151_ h152_ g153_) dL_law_614 rfl (Nat.le_of_ble_eq_true rfl) rfl rfl (Nat.le_of_ble_eq_true rfl) ?_
  refine r_aload_n K dL_law_617 2 rfl rfl ?_
  refine r_aload_n K dL_law_618 0 rfl rfl ?_
  refine r_iload_n K dL_law_619 3 rfl rfl ?_
  refine r_iconst (v := 1) K dL_law_620 rfl ?_
  refine r_iadd K dL_law_621 ?_
  refine r_xald K XO dL_law_622 g150_ ?_
  obtain ⟨r155_, h156_, g157_, hf⟩ := e_2 hf
  refine r_callV (av := [.int (xs (ix (x3 + 1)))]) (st := [.int r151_]) K lkL_68 mwX10_waits (conX10_waits (xs (ix (x3 + 1))) h152_ r155_ h156_ g157_) dL_law_623 rfl (Nat.le_of_ble_eq_true rfl) rfl rfl (Nat.le_of_ble_eq_true rfl) ?_
  refine r_icmp_eq (tgt := 1486) K dL_law_626 (by decide) (fun c158_ => ?_) (fun c158_ => ?_)
  · have hf := e_t hf c158_
    refine r_lv [0, 1, 2, 3] rfl ?_
    exact sL_law_1486 K Z xs L XO Q18 hQ18 x3 h156_ hf
  · have hf := e_f hf c158_
    refine r_iconst (v := 0) K dL_law_629 rfl ?_
    exact r_lawret K Z dL_law_630 hf
def fL_law_631 (xs : Nat → Int32) (L : Nat) (Q18 : Int32 → AH → Option (Int32 × AH)) (x3 : Int32) (h : AH) : Option (Int32 × AH) :=
  if inb (x3 + 1) L = true then if inb (x3 + 2) L = true then bind2 (fX9_sorry (xs (ix (x3 + 1))) (xs (ix (x3 + 2))) h) fun r162_ h163_ => bind2 (fX10_sorry (xs (ix (x3 + 1))) (xs (ix (x3 + 2))) h163_) fun r167_ h168_ => if r162_ = r167_ then fL_law_1486 xs L Q18 x3 h168_ else some (0, h168_) else none else none
set_option maxRecDepth 10000 in
theorem sL_law_631 {G : GG} {E : EE} {h' : AH} (K : OK G E 99 RL cL_law 4) (Z : RTL G E) (xs : Nat → Int32) (L : Nat) (XO : XOK G E L xs) (Q18 : Int32 → AH → Option (Int32 × AH)) (hQ18 : ∀ (x3 : Int32) (h : AH), Q18 x3 h = some (1, h') → JJ G E 4 18 [(0, .ref 300), (1, .ref 0), (2, .ref 59), (3, .int x3)] [] h) (x3 : Int32) (h : AH) (hf : fL_law_631 xs L Q18 x3 h = some (1, h')) : JJ G E 4 631 [(0, .ref 300), (1, .ref 0), (2, .ref 59), (3, .int x3)] [] h := by
  unfold fL_law_631 at hf
  refine r_aload_n K dL_law_631 1 rfl rfl ?_
  refine r_aload_n K dL_law_632 0 rfl rfl ?_
  refine r_iload_n K dL_law_633 3 rfl rfl ?_
  refine r_iconst (v := 1) K dL_law_634 rfl ?_
  refine r_iadd K dL_law_635 ?_
  obtain ⟨g160_, hf⟩ := e_g hf
  refine r_xald K XO dL_law_636 g160_ ?_
  refine r_aload_n K dL_law_637 0 rfl rfl ?_
  refine r_iload_n K dL_law_638 3 rfl rfl ?_
  refine r_iconst (v := 2) K dL_law_639 rfl ?_
  refine r_iadd K dL_law_640 ?_
  obtain ⟨g161_, hf⟩ := e_g hf
  refine r_xald K XO dL_law_641 g161_ ?_
  obtain ⟨r162_, h163_, g164_, hf⟩ := e_2 hf
  refine r_callV (av := [.int (xs (ix (x3 + 1))), .int (xs (ix (x3 + 2)))]) (st := []) K lkL_69 mwX9_sorry (conX9_sorry (xs (ix (x3 + 1))) (xs (ix (x3 + 2))) h r162_ h163_ g164_) dL_law_642 rfl (Nat.le_of_ble_eq_true rfl) rfl rfl (Nat.le_of_ble_eq_true rfl) ?_
  refine r_aload_n K dL_law_645 2 rfl rfl ?_
  refine r_aload_n K dL_law_646 0 rfl rfl ?_
  refine r_iload_n K dL_law_647 3 rfl rfl ?_
  refine r_iconst (v := 1) K dL_law_648 rfl ?_
  refine r_iadd K dL_law_649 ?_
  refine r_xald K XO dL_law_650 g160_ ?_
  refine r_aload_n K dL_law_651 0 rfl rfl ?_
  refine r_iload_n K dL_law_652 3 rfl rfl ?_
  refine r_iconst (v := 2) K dL_law_653 rfl ?_
  refine r_iadd K dL_law_654 ?_
  refine r_xald K XO dL_law_655 g161_ ?_
  obtain ⟨r167_, h168_, g169_, hf⟩ := e_2 hf
  refine r_callV (av := [.int (xs (ix (x3 + 1))), .int (xs (ix (x3 + 2)))]) (st := [.int r162_]) K lkL_72 mwX10_sorry (conX10_sorry (xs (ix (x3 + 1))) (xs (ix (x3 + 2))) h163_ r167_ h168_ g169_) dL_law_656 rfl (Nat.le_of_ble_eq_true rfl) rfl rfl (Nat.le_of_ble_eq_true rfl) ?_
  refine r_icmp_eq (tgt := 1486) K dL_law_659 (by decide) (fun c170_ => ?_) (fun c170_ => ?_)
  · have hf := e_t hf c170_
    refine r_lv [0, 1, 2, 3] rfl ?_
    exact sL_law_1486 K Z xs L XO Q18 hQ18 x3 h168_ hf
  · have hf := e_f hf c170_
    refine r_iconst (v := 0) K dL_law_662 rfl ?_
    exact r_lawret K Z dL_law_663 hf
def fL_law_664 (xs : Nat → Int32) (L : Nat) (Q18 : Int32 → AH → Option (Int32 × AH)) (x3 : Int32) (h : AH) : Option (Int32 × AH) :=
  if inb (x3 + 1) L = true then if inb (x3 + 2) L = true then if inb (x3 + 3) L = true then bind2 (fX9_slipWhen (xs (ix (x3 + 1))) (xs (ix (x3 + 2))) (xs (ix (x3 + 3))) h) fun r175_ h176_ => bind2 (fX10_slipWhen (xs (ix (x3 + 1))) (xs (ix (x3 + 2))) (xs (ix (x3 + 3))) h176_) fun r181_ h182_ => if r175_ = r181_ then fL_law_1486 xs L Q18 x3 h182_ else some (0, h182_) else none else none else none
set_option maxRecDepth 10000 in
theorem sL_law_664 {G : GG} {E : EE} {h' : AH} (K : OK G E 99 RL cL_law 4) (Z : RTL G E) (xs : Nat → Int32) (L : Nat) (XO : XOK G E L xs) (Q18 : Int32 → AH → Option (Int32 × AH)) (hQ18 : ∀ (x3 : Int32) (h : AH), Q18 x3 h = some (1, h') → JJ G E 4 18 [(0, .ref 300), (1, .ref 0), (2, .ref 59), (3, .int x3)] [] h) (x3 : Int32) (h : AH) (hf : fL_law_664 xs L Q18 x3 h = some (1, h')) : JJ G E 4 664 [(0, .ref 300), (1, .ref 0), (2, .ref 59), (3, .int x3)] [] h := by
  unfold fL_law_664 at hf
  refine r_aload_n K dL_law_664 1 rfl rfl ?_
  refine r_aload_n K dL_law_665 0 rfl rfl ?_
  refine r_iload_n K dL_law_666 3 rfl rfl ?_
  refine r_iconst (v := 1) K dL_law_667 rfl ?_
  refine r_iadd K dL_law_668 ?_
  obtain ⟨g172_, hf⟩ := e_g hf
  refine r_xald K XO dL_law_669 g172_ ?_
  refine r_aload_n K dL_law_670 0 rfl rfl ?_
  refine r_iload_n K dL_law_671 3 rfl rfl ?_
  refine r_iconst (v := 2) K dL_law_672 rfl ?_
  refine r_iadd K dL_law_673 ?_
  obtain ⟨g173_, hf⟩ := e_g hf
  refine r_xald K XO dL_law_674 g173_ ?_
  refine r_aload_n K dL_law_675 0 rfl rfl ?_
  refine r_iload_n K dL_law_676 3 rfl rfl ?_
  refine r_iconst (v := 3) K dL_law_677 rfl ?_
  refine r_iadd K dL_law_678 ?_
  obtain ⟨g174_, hf⟩ := e_g hf
  refine r_xald K XO dL_law_679 g174_ ?_
  obtain ⟨r175_, h176_, g177_, hf⟩ := e_2 hf
  refine r_callV (av := [.int (xs (ix (x3 + 1))), .int (xs (ix (x3 + 2))), .int (xs (ix (x3 + 3)))]) (st := []) K lkL_73 mwX9_slipWhen (conX9_slipWhen (xs (ix (x3 + 1))) (xs (ix (x3 + 2))) (xs (ix (x3 + 3))) h r175_ h176_ g177_) dL_law_680 rfl (Nat.le_of_ble_eq_true rfl) rfl rfl (Nat.le_of_ble_eq_true rfl) ?_
  refine r_aload_n K dL_law_683 2 rfl rfl ?_
  refine r_aload_n K dL_law_684 0 rfl rfl ?_
  refine r_iload_n K dL_law_685 3 rfl rfl ?_
  refine r_iconst (v := 1) K dL_law_686 rfl ?_
  refine r_iadd K dL_law_687 ?_
  refine r_xald K XO dL_law_688 g172_ ?_
  refine r_aload_n K dL_law_689 0 rfl rfl ?_
  refine r_iload_n K dL_law_690 3 rfl rfl ?_
  refine r_iconst (v := 2) K dL_law_691 rfl ?_
  refine r_iadd K dL_law_692 ?_
  refine r_xald K XO dL_law_693 g173_ ?_
  refine r_aload_n K dL_law_694 0 rfl rfl ?_
  refine r_iload_n K dL_law_695 3 rfl rfl ?_
  refine r_iconst (v := 3) K dL_law_696 rfl ?_
  refine r_iadd K dL_law_697 ?_
  refine r_xald K XO dL_law_698 g174_ ?_
  obtain ⟨r181_, h182_, g183_, hf⟩ := e_2 hf
  refine r_callV (av := [.int (xs (ix (x3 + 1))), .int (xs (ix (x3 + 2))), .int (xs (ix (x3 + 3)))]) (st := [.int r175_]) K lkL_76 mwX10_slipWhen (conX10_slipWhen (xs (ix (x3 + 1))) (xs (ix (x3 + 2))) (xs (ix (x3 + 3))) h176_ r181_ h182_ g183_) dL_law_699 rfl (Nat.le_of_ble_eq_true rfl) rfl rfl (Nat.le_of_ble_eq_true rfl) ?_
  refine r_icmp_eq (tgt := 1486) K dL_law_702 (by decide) (fun c184_ => ?_) (fun c184_ => ?_)
  · have hf := e_t hf c184_
    refine r_lv [0, 1, 2, 3] rfl ?_
    exact sL_law_1486 K Z xs L XO Q18 hQ18 x3 h182_ hf
  · have hf := e_f hf c184_
    refine r_iconst (v := 0) K dL_law_705 rfl ?_
    exact r_lawret K Z dL_law_706 hf
def fL_law_707 (xs : Nat → Int32) (L : Nat) (Q18 : Int32 → AH → Option (Int32 × AH)) (x3 : Int32) (h : AH) : Option (Int32 × AH) :=
  if inb (x3 + 1) L = true then bind2 (fX9_held (xs (ix (x3 + 1))) h) fun r187_ h188_ => bind2 (fX10_held (xs (ix (x3 + 1))) h188_) fun r191_ h192_ => if r187_ = r191_ then fL_law_1486 xs L Q18 x3 h192_ else some (0, h192_) else none
set_option maxRecDepth 10000 in
theorem sL_law_707 {G : GG} {E : EE} {h' : AH} (K : OK G E 99 RL cL_law 4) (Z : RTL G E) (xs : Nat → Int32) (L : Nat) (XO : XOK G E L xs) (Q18 : Int32 → AH → Option (Int32 × AH)) (hQ18 : ∀ (x3 : Int32) (h : AH), Q18 x3 h = some (1, h') → JJ G E 4 18 [(0, .ref 300), (1, .ref 0), (2, .ref 59), (3, .int x3)] [] h) (x3 : Int32) (h : AH) (hf : fL_law_707 xs L Q18 x3 h = some (1, h')) : JJ G E 4 707 [(0, .ref 300), (1, .ref 0), (2, .ref 59), (3, .int x3)] [] h := by
  unfold fL_law_707 at hf
  refine r_aload_n K dL_law_707 1 rfl rfl ?_
  refine r_aload_n K dL_law_708 0 rfl rfl ?_
  refine r_iload_n K dL_law_709 3 rfl rfl ?_
  refine r_iconst (v := 1) K dL_law_710 rfl ?_
  refine r_iadd K dL_law_711 ?_
  obtain ⟨g186_, hf⟩ := e_g hf
  refine r_xald K XO dL_law_712 g186_ ?_
  obtain ⟨r187_, h188_, g189_, hf⟩ := e_2 hf
  refine r_callV (av := [.int (xs (ix (x3 + 1)))]) (st := []) K lkL_77 mwX9_held (conX9_held (xs (ix (x3 + 1))) h r187_ h188_ g189_) dL_law_713 rfl (Nat.le_of_ble_eq_true rfl) rfl rfl (Nat.le_of_ble_eq_true rfl) ?_
  refine r_aload_n K dL_law_716 2 rfl rfl ?_
  refine r_aload_n K dL_law_717 0 rfl rfl ?_
  refine r_iload_n K dL_law_718 3 rfl rfl ?_
  refine r_iconst (v := 1) K dL_law_719 rfl ?_
  refine r_iadd K dL_law_720 ?_
  refine r_xald K XO dL_law_721 g186_ ?_
  obtain ⟨r191_, h192_, g193_, hf⟩ := e_2 hf
  refine r_callV (av := [.int (xs (ix (x3 + 1)))]) (st := [.int r187_]) K lkL_80 mwX10_held (conX10_held (xs (ix (x3 + 1))) h188_ r191_ h192_ g193_) dL_law_722 rfl (Nat.le_of_ble_eq_true rfl) rfl rfl (Nat.le_of_ble_eq_true rfl) ?_
  refine r_icmp_eq (tgt := 1486) K dL_law_725 (by decide) (fun c194_ => ?_) (fun c194_ => ?_)
  · have hf := e_t hf c194_
    refine r_lv [0, 1, 2, 3] rfl ?_
    exact sL_law_1486 K Z xs L XO Q18 hQ18 x3 h192_ hf
  · have hf := e_f hf c194_
    refine r_iconst (v := 0) K dL_law_728 rfl ?_
    exact r_lawret K Z dL_law_729 hf
def fL_law_730 (xs : Nat → Int32) (L : Nat) (Q18 : Int32 → AH → Option (Int32 × AH)) (x3 : Int32) (h : AH) : Option (Int32 × AH) :=
  if inb (x3 + 1) L = true then bind2 (fX9_pairs (xs (ix (x3 + 1))) h) fun r197_ h198_ => bind2 (fX10_pairs (xs (ix (x3 + 1))) h198_) fun r201_ h202_ => if r197_ = r201_ then fL_law_1486 xs L Q18 x3 h202_ else some (0, h202_) else none
set_option maxRecDepth 10000 in
theorem sL_law_730 {G : GG} {E : EE} {h' : AH} (K : OK G E 99 RL cL_law 4) (Z : RTL G E) (xs : Nat → Int32) (L : Nat) (XO : XOK G E L xs) (Q18 : Int32 → AH → Option (Int32 × AH)) (hQ18 : ∀ (x3 : Int32) (h : AH), Q18 x3 h = some (1, h') → JJ G E 4 18 [(0, .ref 300), (1, .ref 0), (2, .ref 59), (3, .int x3)] [] h) (x3 : Int32) (h : AH) (hf : fL_law_730 xs L Q18 x3 h = some (1, h')) : JJ G E 4 730 [(0, .ref 300), (1, .ref 0), (2, .ref 59), (3, .int x3)] [] h := by
  unfold fL_law_730 at hf
  refine r_aload_n K dL_law_730 1 rfl rfl ?_
  refine r_aload_n K dL_law_731 0 rfl rfl ?_
  refine r_iload_n K dL_law_732 3 rfl rfl ?_
  refine r_iconst (v := 1) K dL_law_733 rfl ?_
  refine r_iadd K dL_law_734 ?_
  obtain ⟨g196_, hf⟩ := e_g hf
  refine r_xald K XO dL_law_735 g196_ ?_
  obtain ⟨r197_, h198_, g199_, hf⟩ := e_2 hf
  refine r_callV (av := [.int (xs (ix (x3 + 1)))]) (st := []) K lkL_81 mwX9_pairs (conX9_pairs (xs (ix (x3 + 1))) h r197_ h198_ g199_) dL_law_736 rfl (Nat.le_of_ble_eq_true rfl) rfl rfl (Nat.le_of_ble_eq_true rfl) ?_
  refine r_aload_n K dL_law_739 2 rfl rfl ?_
  refine r_aload_n K dL_law_740 0 rfl rfl ?_
  refine r_iload_n K dL_law_741 3 rfl rfl ?_
  refine r_iconst (v := 1) K dL_law_742 rfl ?_
  refine r_iadd K dL_law_743 ?_
  refine r_xald K XO dL_law_744 g196_ ?_
  obtain ⟨r201_, h202_, g203_, hf⟩ := e_2 hf
  refine r_callV (av := [.int (xs (ix (x3 + 1)))]) (st := [.int r197_]) K lkL_84 mwX10_pairs (conX10_pairs (xs (ix (x3 + 1))) h198_ r201_ h202_ g203_) dL_law_745 rfl (Nat.le_of_ble_eq_true rfl) rfl rfl (Nat.le_of_ble_eq_true rfl) ?_
  refine r_icmp_eq (tgt := 1486) K dL_law_748 (by decide) (fun c204_ => ?_) (fun c204_ => ?_)
  · have hf := e_t hf c204_
    refine r_lv [0, 1, 2, 3] rfl ?_
    exact sL_law_1486 K Z xs L XO Q18 hQ18 x3 h202_ hf
  · have hf := e_f hf c204_
    refine r_iconst (v := 0) K dL_law_751 rfl ?_
    exact r_lawret K Z dL_law_752 hf
def fL_law_753 (xs : Nat → Int32) (L : Nat) (Q18 : Int32 → AH → Option (Int32 × AH)) (x3 : Int32) (h : AH) : Option (Int32 × AH) :=
  if inb (x3 + 1) L = true then bind2 (fX9_judge (xs (ix (x3 + 1))) h) fun r207_ h208_ => bind2 (fX10_judge (xs (ix (x3 + 1))) h208_) fun r211_ h212_ => if r207_ = r211_ then fL_law_1486 xs L Q18 x3 h212_ else some (0, h212_) else none
set_option maxRecDepth 10000 in
theorem sL_law_753 {G : GG} {E : EE} {h' : AH} (K : OK G E 99 RL cL_law 4) (Z : RTL G E) (xs : Nat → Int32) (L : Nat) (XO : XOK G E L xs) (Q18 : Int32 → AH → Option (Int32 × AH)) (hQ18 : ∀ (x3 : Int32) (h : AH), Q18 x3 h = some (1, h') → JJ G E 4 18 [(0, .ref 300), (1, .ref 0), (2, .ref 59), (3, .int x3)] [] h) (x3 : Int32) (h : AH) (hf : fL_law_753 xs L Q18 x3 h = some (1, h')) : JJ G E 4 753 [(0, .ref 300), (1, .ref 0), (2, .ref 59), (3, .int x3)] [] h := by
  unfold fL_law_753 at hf
  refine r_aload_n K dL_law_753 1 rfl rfl ?_
  refine r_aload_n K dL_law_754 0 rfl rfl ?_
  refine r_iload_n K dL_law_755 3 rfl rfl ?_
  refine r_iconst (v := 1) K dL_law_756 rfl ?_
  refine r_iadd K dL_law_757 ?_
  obtain ⟨g206_, hf⟩ := e_g hf
  refine r_xald K XO dL_law_758 g206_ ?_
  obtain ⟨r207_, h208_, g209_, hf⟩ := e_2 hf
  refine r_callV (av := [.int (xs (ix (x3 + 1)))]) (st := []) K lkL_85 mwX9_judge (conX9_judge (xs (ix (x3 + 1))) h r207_ h208_ g209_) dL_law_759 rfl (Nat.le_of_ble_eq_true rfl) rfl rfl (Nat.le_of_ble_eq_true rfl) ?_
  refine r_aload_n K dL_law_762 2 rfl rfl ?_
  refine r_aload_n K dL_law_763 0 rfl rfl ?_
  refine r_iload_n K dL_law_764 3 rfl rfl ?_
  refine r_iconst (v := 1) K dL_law_765 rfl ?_
  refine r_iadd K dL_law_766 ?_
  refine r_xald K XO dL_law_767 g206_ ?_
  obtain ⟨r211_, h212_, g213_, hf⟩ := e_2 hf
  refine r_callV (av := [.int (xs (ix (x3 + 1)))]) (st := [.int r207_]) K lkL_88 mwX10_judge (conX10_judge (xs (ix (x3 + 1))) h208_ r211_ h212_ g213_) dL_law_768 rfl (Nat.le_of_ble_eq_true rfl) rfl rfl (Nat.le_of_ble_eq_true rfl) ?_
  refine r_icmp_eq (tgt := 1486) K dL_law_771 (by decide) (fun c214_ => ?_) (fun c214_ => ?_)
  · have hf := e_t hf c214_
    refine r_lv [0, 1, 2, 3] rfl ?_
    exact sL_law_1486 K Z xs L XO Q18 hQ18 x3 h212_ hf
  · have hf := e_f hf c214_
    refine r_iconst (v := 0) K dL_law_774 rfl ?_
    exact r_lawret K Z dL_law_775 hf
def fL_law_776 (xs : Nat → Int32) (L : Nat) (Q18 : Int32 → AH → Option (Int32 × AH)) (x3 : Int32) (h : AH) : Option (Int32 × AH) :=
  if inb (x3 + 1) L = true then if inb (x3 + 2) L = true then if inb (x3 + 3) L = true then bind2 (fX9_fits (xs (ix (x3 + 1))) (xs (ix (x3 + 2))) (xs (ix (x3 + 3))) h) fun r219_ h220_ => bind2 (fX10_fits (xs (ix (x3 + 1))) (xs (ix (x3 + 2))) (xs (ix (x3 + 3))) h220_) fun r225_ h226_ => if r219_ = r225_ then fL_law_1486 xs L Q18 x3 h226_ else some (0, h226_) else none else none else none
set_option maxRecDepth 10000 in
theorem sL_law_776 {G : GG} {E : EE} {h' : AH} (K : OK G E 99 RL cL_law 4) (Z : RTL G E) (xs : Nat → Int32) (L : Nat) (XO : XOK G E L xs) (Q18 : Int32 → AH → Option (Int32 × AH)) (hQ18 : ∀ (x3 : Int32) (h : AH), Q18 x3 h = some (1, h') → JJ G E 4 18 [(0, .ref 300), (1, .ref 0), (2, .ref 59), (3, .int x3)] [] h) (x3 : Int32) (h : AH) (hf : fL_law_776 xs L Q18 x3 h = some (1, h')) : JJ G E 4 776 [(0, .ref 300), (1, .ref 0), (2, .ref 59), (3, .int x3)] [] h := by
  unfold fL_law_776 at hf
  refine r_aload_n K dL_law_776 1 rfl rfl ?_
  refine r_aload_n K dL_law_777 0 rfl rfl ?_
  refine r_iload_n K dL_law_778 3 rfl rfl ?_
  refine r_iconst (v := 1) K dL_law_779 rfl ?_
  refine r_iadd K dL_law_780 ?_
  obtain ⟨g216_, hf⟩ := e_g hf
  refine r_xald K XO dL_law_781 g216_ ?_
  refine r_aload_n K dL_law_782 0 rfl rfl ?_
  refine r_iload_n K dL_law_783 3 rfl rfl ?_
  refine r_iconst (v := 2) K dL_law_784 rfl ?_
  refine r_iadd K dL_law_785 ?_
  obtain ⟨g217_, hf⟩ := e_g hf
  refine r_xald K XO dL_law_786 g217_ ?_
  refine r_aload_n K dL_law_787 0 rfl rfl ?_
  refine r_iload_n K dL_law_788 3 rfl rfl ?_
  refine r_iconst (v := 3) K dL_law_789 rfl ?_
  refine r_iadd K dL_law_790 ?_
  obtain ⟨g218_, hf⟩ := e_g hf
  refine r_xald K XO dL_law_791 g218_ ?_
  obtain ⟨r219_, h220_, g221_, hf⟩ := e_2 hf
  refine r_callV (av := [.int (xs (ix (x3 + 1))), .int (xs (ix (x3 + 2))), .int (xs (ix (x3 + 3)))]) (st := []) K lkL_89 mwX9_fits (conX9_fits (xs (ix (x3 + 1))) (xs (ix (x3 + 2))) (xs (ix (x3 + 3))) h r219_ h220_ g221_) dL_law_792 rfl (Nat.le_of_ble_eq_true rfl) rfl rfl (Nat.le_of_ble_eq_true rfl) ?_
  refine r_aload_n K dL_law_795 2 rfl rfl ?_
  refine r_aload_n K dL_law_796 0 rfl rfl ?_
  refine r_iload_n K dL_law_797 3 rfl rfl ?_
  refine r_iconst (v := 1) K dL_law_798 rfl ?_
  refine r_iadd K dL_law_799 ?_
  refine r_xald K XO dL_law_800 g216_ ?_
  refine r_aload_n K dL_law_801 0 rfl rfl ?_
  refine r_iload_n K dL_law_802 3 rfl rfl ?_
  refine r_iconst (v := 2) K dL_law_803 rfl ?_
  refine r_iadd K dL_law_804 ?_
  refine r_xald K XO dL_law_805 g217_ ?_
  refine r_aload_n K dL_law_806 0 rfl rfl ?_
  refine r_iload_n K dL_law_807 3 rfl rfl ?_
  refine r_iconst (v := 3) K dL_law_808 rfl ?_
  refine r_iadd K dL_law_809 ?_
  refine r_xald K XO dL_law_810 g218_ ?_
  obtain ⟨r225_, h226_, g227_, hf⟩ := e_2 hf
  refine r_callV (av := [.int (xs (ix (x3 + 1))), .int (xs (ix (x3 + 2))), .int (xs (ix (x3 + 3)))]) (st := [.int r219_]) K lkL_92 mwX10_fits (conX10_fits (xs (ix (x3 + 1))) (xs (ix (x3 + 2))) (xs (ix (x3 + 3))) h220_ r225_ h226_ g227_) dL_law_811 rfl (Nat.le_of_ble_eq_true rfl) rfl rfl (Nat.le_of_ble_eq_true rfl) ?_
  refine r_icmp_eq (tgt := 1486) K dL_law_814 (by decide) (fun c228_ => ?_) (fun c228_ => ?_)
  · have hf := e_t hf c228_
    refine r_lv [0, 1, 2, 3] rfl ?_
    exact sL_law_1486 K Z xs L XO Q18 hQ18 x3 h226_ hf
  · have hf := e_f hf c228_
    refine r_iconst (v := 0) K dL_law_817 rfl ?_
    exact r_lawret K Z dL_law_818 hf
def fL_law_819 (xs : Nat → Int32) (L : Nat) (Q18 : Int32 → AH → Option (Int32 × AH)) (x3 : Int32) (h : AH) : Option (Int32 × AH) :=
  if inb (x3 + 1) L = true then bind2 (fX9_upside (xs (ix (x3 + 1))) h) fun r231_ h232_ => bind2 (fX10_upside (xs (ix (x3 + 1))) h232_) fun r235_ h236_ => if r231_ = r235_ then fL_law_1486 xs L Q18 x3 h236_ else some (0, h236_) else none
set_option maxRecDepth 10000 in
theorem sL_law_819 {G : GG} {E : EE} {h' : AH} (K : OK G E 99 RL cL_law 4) (Z : RTL G E) (xs : Nat → Int32) (L : Nat) (XO : XOK G E L xs) (Q18 : Int32 → AH → Option (Int32 × AH)) (hQ18 : ∀ (x3 : Int32) (h : AH), Q18 x3 h = some (1, h') → JJ G E 4 18 [(0, .ref 300), (1, .ref 0), (2, .ref 59), (3, .int x3)] [] h) (x3 : Int32) (h : AH) (hf : fL_law_819 xs L Q18 x3 h = some (1, h')) : JJ G E 4 819 [(0, .ref 300), (1, .ref 0), (2, .ref 59), (3, .int x3)] [] h := by
  unfold fL_law_819 at hf
  refine r_aload_n K dL_law_819 1 rfl rfl ?_
  refine r_aload_n K dL_law_820 0 rfl rfl ?_
  refine r_iload_n K dL_law_821 3 rfl rfl ?_
  refine r_iconst (v := 1) K dL_law_822 rfl ?_
  refine r_iadd K dL_law_823 ?_
  obtain ⟨g230_, hf⟩ := e_g hf
  refine r_xald K XO dL_law_824 g230_ ?_
  obtain ⟨r231_, h232_, g233_, hf⟩ := e_2 hf
  refine r_callV (av := [.int (xs (ix (x3 + 1)))]) (st := []) K lkL_93 mwX9_upside (conX9_upside (xs (ix (x3 + 1))) h r231_ h232_ g233_) dL_law_825 rfl (Nat.le_of_ble_eq_true rfl) rfl rfl (Nat.le_of_ble_eq_true rfl) ?_
  refine r_aload_n K dL_law_828 2 rfl rfl ?_
  refine r_aload_n K dL_law_829 0 rfl rfl ?_
  refine r_iload_n K dL_law_830 3 rfl rfl ?_
  refine r_iconst (v := 1) K dL_law_831 rfl ?_
  refine r_iadd K dL_law_832 ?_
  refine r_xald K XO dL_law_833 g230_ ?_
  obtain ⟨r235_, h236_, g237_, hf⟩ := e_2 hf
  refine r_callV (av := [.int (xs (ix (x3 + 1)))]) (st := [.int r231_]) K lkL_96 mwX10_upside (conX10_upside (xs (ix (x3 + 1))) h232_ r235_ h236_ g237_) dL_law_834 rfl (Nat.le_of_ble_eq_true rfl) rfl rfl (Nat.le_of_ble_eq_true rfl) ?_
  refine r_icmp_eq (tgt := 1486) K dL_law_837 (by decide) (fun c238_ => ?_) (fun c238_ => ?_)
  · have hf := e_t hf c238_
    refine r_lv [0, 1, 2, 3] rfl ?_
    exact sL_law_1486 K Z xs L XO Q18 hQ18 x3 h236_ hf
  · have hf := e_f hf c238_
    refine r_iconst (v := 0) K dL_law_840 rfl ?_
    exact r_lawret K Z dL_law_841 hf
def fL_law_842 (xs : Nat → Int32) (L : Nat) (Q18 : Int32 → AH → Option (Int32 × AH)) (x3 : Int32) (h : AH) : Option (Int32 × AH) :=
  if inb (x3 + 1) L = true then if inb (x3 + 2) L = true then if inb (x3 + 3) L = true then bind2 (fX9_byTurns (xs (ix (x3 + 1))) (xs (ix (x3 + 2))) (xs (ix (x3 + 3))) h) fun r243_ h244_ => bind2 (fX10_byTurns (xs (ix (x3 + 1))) (xs (ix (x3 + 2))) (xs (ix (x3 + 3))) h244_) fun r249_ h250_ => if r243_ = r249_ then fL_law_1486 xs L Q18 x3 h250_ else some (0, h250_) else none else none else none
set_option maxRecDepth 10000 in
theorem sL_law_842 {G : GG} {E : EE} {h' : AH} (K : OK G E 99 RL cL_law 4) (Z : RTL G E) (xs : Nat → Int32) (L : Nat) (XO : XOK G E L xs) (Q18 : Int32 → AH → Option (Int32 × AH)) (hQ18 : ∀ (x3 : Int32) (h : AH), Q18 x3 h = some (1, h') → JJ G E 4 18 [(0, .ref 300), (1, .ref 0), (2, .ref 59), (3, .int x3)] [] h) (x3 : Int32) (h : AH) (hf : fL_law_842 xs L Q18 x3 h = some (1, h')) : JJ G E 4 842 [(0, .ref 300), (1, .ref 0), (2, .ref 59), (3, .int x3)] [] h := by
  unfold fL_law_842 at hf
  refine r_aload_n K dL_law_842 1 rfl rfl ?_
  refine r_aload_n K dL_law_843 0 rfl rfl ?_
  refine r_iload_n K dL_law_844 3 rfl rfl ?_
  refine r_iconst (v := 1) K dL_law_845 rfl ?_
  refine r_iadd K dL_law_846 ?_
  obtain ⟨g240_, hf⟩ := e_g hf
  refine r_xald K XO dL_law_847 g240_ ?_
  refine r_aload_n K dL_law_848 0 rfl rfl ?_
  refine r_iload_n K dL_law_849 3 rfl rfl ?_
  refine r_iconst (v := 2) K dL_law_850 rfl ?_
  refine r_iadd K dL_law_851 ?_
  obtain ⟨g241_, hf⟩ := e_g hf
  refine r_xald K XO dL_law_852 g241_ ?_
  refine r_aload_n K dL_law_853 0 rfl rfl ?_
  refine r_iload_n K dL_law_854 3 rfl rfl ?_
  refine r_iconst (v := 3) K dL_law_855 rfl ?_
  refine r_iadd K dL_law_856 ?_
  obtain ⟨g242_, hf⟩ := e_g hf
  refine r_xald K XO dL_law_857 g242_ ?_
  obtain ⟨r243_, h244_, g245_, hf⟩ := e_2 hf
  refine r_callV (av := [.int (xs (ix (x3 + 1))), .int (xs (ix (x3 + 2))), .int (xs (ix (x3 + 3)))]) (st := []) K lkL_97 mwX9_byTurns (conX9_byTurns (xs (ix (x3 + 1))) (xs (ix (x3 + 2))) (xs (ix (x3 + 3))) h r243_ h244_ g245_) dL_law_858 rfl (Nat.le_of_ble_eq_true rfl) rfl rfl (Nat.le_of_ble_eq_true rfl) ?_
  refine r_aload_n K dL_law_861 2 rfl rfl ?_
  refine r_aload_n K dL_law_862 0 rfl rfl ?_
  refine r_iload_n K dL_law_863 3 rfl rfl ?_
  refine r_iconst (v := 1) K dL_law_864 rfl ?_
  refine r_iadd K dL_law_865 ?_
  refine r_xald K XO dL_law_866 g240_ ?_
  refine r_aload_n K dL_law_867 0 rfl rfl ?_
  refine r_iload_n K dL_law_868 3 rfl rfl ?_
  refine r_iconst (v := 2) K dL_law_869 rfl ?_
  refine r_iadd K dL_law_870 ?_
  refine r_xald K XO dL_law_871 g241_ ?_
  refine r_aload_n K dL_law_872 0 rfl rfl ?_
  refine r_iload_n K dL_law_873 3 rfl rfl ?_
  refine r_iconst (v := 3) K dL_law_874 rfl ?_
  refine r_iadd K dL_law_875 ?_
  refine r_xald K XO dL_law_876 g242_ ?_
  obtain ⟨r249_, h250_, g251_, hf⟩ := e_2 hf
  refine r_callV (av := [.int (xs (ix (x3 + 1))), .int (xs (ix (x3 + 2))), .int (xs (ix (x3 + 3)))]) (st := [.int r243_]) K lkL_100 mwX10_byTurns (conX10_byTurns (xs (ix (x3 + 1))) (xs (ix (x3 + 2))) (xs (ix (x3 + 3))) h244_ r249_ h250_ g251_) dL_law_877 rfl (Nat.le_of_ble_eq_true rfl) rfl rfl (Nat.le_of_ble_eq_true rfl) ?_
  refine r_icmp_eq (tgt := 1486) K dL_law_880 (by decide) (fun c252_ => ?_) (fun c252_ => ?_)
  · have hf := e_t hf c252_
    refine r_lv [0, 1, 2, 3] rfl ?_
    exact sL_law_1486 K Z xs L XO Q18 hQ18 x3 h250_ hf
  · have hf := e_f hf c252_
    refine r_iconst (v := 0) K dL_law_883 rfl ?_
    exact r_lawret K Z dL_law_884 hf
def fL_law_885 (xs : Nat → Int32) (L : Nat) (Q18 : Int32 → AH → Option (Int32 × AH)) (x3 : Int32) (h : AH) : Option (Int32 × AH) :=
  if inb (x3 + 1) L = true then if inb (x3 + 2) L = true then if inb (x3 + 3) L = true then bind2 (fX9_drawn (xs (ix (x3 + 1))) (xs (ix (x3 + 2))) (xs (ix (x3 + 3))) h) fun r257_ h258_ => bind2 (fX10_drawn (xs (ix (x3 + 1))) (xs (ix (x3 + 2))) (xs (ix (x3 + 3))) h258_) fun r263_ h264_ => if r257_ = r263_ then fL_law_1486 xs L Q18 x3 h264_ else some (0, h264_) else none else none else none
set_option maxRecDepth 10000 in
theorem sL_law_885 {G : GG} {E : EE} {h' : AH} (K : OK G E 99 RL cL_law 4) (Z : RTL G E) (xs : Nat → Int32) (L : Nat) (XO : XOK G E L xs) (Q18 : Int32 → AH → Option (Int32 × AH)) (hQ18 : ∀ (x3 : Int32) (h : AH), Q18 x3 h = some (1, h') → JJ G E 4 18 [(0, .ref 300), (1, .ref 0), (2, .ref 59), (3, .int x3)] [] h) (x3 : Int32) (h : AH) (hf : fL_law_885 xs L Q18 x3 h = some (1, h')) : JJ G E 4 885 [(0, .ref 300), (1, .ref 0), (2, .ref 59), (3, .int x3)] [] h := by
  unfold fL_law_885 at hf
  refine r_aload_n K dL_law_885 1 rfl rfl ?_
  refine r_aload_n K dL_law_886 0 rfl rfl ?_
  refine r_iload_n K dL_law_887 3 rfl rfl ?_
  refine r_iconst (v := 1) K dL_law_888 rfl ?_
  refine r_iadd K dL_law_889 ?_
  obtain ⟨g254_, hf⟩ := e_g hf
  refine r_xald K XO dL_law_890 g254_ ?_
  refine r_aload_n K dL_law_891 0 rfl rfl ?_
  refine r_iload_n K dL_law_892 3 rfl rfl ?_
  refine r_iconst (v := 2) K dL_law_893 rfl ?_
  refine r_iadd K dL_law_894 ?_
  obtain ⟨g255_, hf⟩ := e_g hf
  refine r_xald K XO dL_law_895 g255_ ?_
  refine r_aload_n K dL_law_896 0 rfl rfl ?_
  refine r_iload_n K dL_law_897 3 rfl rfl ?_
  refine r_iconst (v := 3) K dL_law_898 rfl ?_
  refine r_iadd K dL_law_899 ?_
  obtain ⟨g256_, hf⟩ := e_g hf
  refine r_xald K XO dL_law_900 g256_ ?_
  obtain ⟨r257_, h258_, g259_, hf⟩ := e_2 hf
  refine r_callV (av := [.int (xs (ix (x3 + 1))), .int (xs (ix (x3 + 2))), .int (xs (ix (x3 + 3)))]) (st := []) K lkL_101 mwX9_drawn (conX9_drawn (xs (ix (x3 + 1))) (xs (ix (x3 + 2))) (xs (ix (x3 + 3))) h r257_ h258_ g259_) dL_law_901 rfl (Nat.le_of_ble_eq_true rfl) rfl rfl (Nat.le_of_ble_eq_true rfl) ?_
  refine r_aload_n K dL_law_904 2 rfl rfl ?_
  refine r_aload_n K dL_law_905 0 rfl rfl ?_
  refine r_iload_n K dL_law_906 3 rfl rfl ?_
  refine r_iconst (v := 1) K dL_law_907 rfl ?_
  refine r_iadd K dL_law_908 ?_
  refine r_xald K XO dL_law_909 g254_ ?_
  refine r_aload_n K dL_law_910 0 rfl rfl ?_
  refine r_iload_n K dL_law_911 3 rfl rfl ?_
  refine r_iconst (v := 2) K dL_law_912 rfl ?_
  refine r_iadd K dL_law_913 ?_
  refine r_xald K XO dL_law_914 g255_ ?_
  refine r_aload_n K dL_law_915 0 rfl rfl ?_
  refine r_iload_n K dL_law_916 3 rfl rfl ?_
  refine r_iconst (v := 3) K dL_law_917 rfl ?_
  refine r_iadd K dL_law_918 ?_
  refine r_xald K XO dL_law_919 g256_ ?_
  obtain ⟨r263_, h264_, g265_, hf⟩ := e_2 hf
  refine r_callV (av := [.int (xs (ix (x3 + 1))), .int (xs (ix (x3 + 2))), .int (xs (ix (x3 + 3)))]) (st := [.int r257_]) K lkL_104 mwX10_drawn (conX10_drawn (xs (ix (x3 + 1))) (xs (ix (x3 + 2))) (xs (ix (x3 + 3))) h258_ r263_ h264_ g265_) dL_law_920 rfl (Nat.le_of_ble_eq_true rfl) rfl rfl (Nat.le_of_ble_eq_true rfl) ?_
  refine r_icmp_eq (tgt := 1486) K dL_law_923 (by decide) (fun c266_ => ?_) (fun c266_ => ?_)
  · have hf := e_t hf c266_
    refine r_lv [0, 1, 2, 3] rfl ?_
    exact sL_law_1486 K Z xs L XO Q18 hQ18 x3 h264_ hf
  · have hf := e_f hf c266_
    refine r_iconst (v := 0) K dL_law_926 rfl ?_
    exact r_lawret K Z dL_law_927 hf
def fL_law_928 (xs : Nat → Int32) (L : Nat) (Q18 : Int32 → AH → Option (Int32 × AH)) (x3 : Int32) (h : AH) : Option (Int32 × AH) :=
  if inb (x3 + 1) L = true then if inb (x3 + 2) L = true then bind2 (fX9_slips (xs (ix (x3 + 1))) (xs (ix (x3 + 2))) h) fun r270_ h271_ => bind2 (fX10_slips (xs (ix (x3 + 1))) (xs (ix (x3 + 2))) h271_) fun r275_ h276_ => if r270_ = r275_ then fL_law_1486 xs L Q18 x3 h276_ else some (0, h276_) else none else none
set_option maxRecDepth 10000 in
theorem sL_law_928 {G : GG} {E : EE} {h' : AH} (K : OK G E 99 RL cL_law 4) (Z : RTL G E) (xs : Nat → Int32) (L : Nat) (XO : XOK G E L xs) (Q18 : Int32 → AH → Option (Int32 × AH)) (hQ18 : ∀ (x3 : Int32) (h : AH), Q18 x3 h = some (1, h') → JJ G E 4 18 [(0, .ref 300), (1, .ref 0), (2, .ref 59), (3, .int x3)] [] h) (x3 : Int32) (h : AH) (hf : fL_law_928 xs L Q18 x3 h = some (1, h')) : JJ G E 4 928 [(0, .ref 300), (1, .ref 0), (2, .ref 59), (3, .int x3)] [] h := by
  unfold fL_law_928 at hf
  refine r_aload_n K dL_law_928 1 rfl rfl ?_
  refine r_aload_n K dL_law_929 0 rfl rfl ?_
  refine r_iload_n K dL_law_930 3 rfl rfl ?_
  refine r_iconst (v := 1) K dL_law_931 rfl ?_
  refine r_iadd K dL_law_932 ?_
  obtain ⟨g268_, hf⟩ := e_g hf
  refine r_xald K XO dL_law_933 g268_ ?_
  refine r_aload_n K dL_law_934 0 rfl rfl ?_
  refine r_iload_n K dL_law_935 3 rfl rfl ?_
  refine r_iconst (v := 2) K dL_law_936 rfl ?_
  refine r_iadd K dL_law_937 ?_
  obtain ⟨g269_, hf⟩ := e_g hf
  refine r_xald K XO dL_law_938 g269_ ?_
  obtain ⟨r270_, h271_, g272_, hf⟩ := e_2 hf
  refine r_callV (av := [.int (xs (ix (x3 + 1))), .int (xs (ix (x3 + 2)))]) (st := []) K lkL_105 mwX9_slips (conX9_slips (xs (ix (x3 + 1))) (xs (ix (x3 + 2))) h r270_ h271_ g272_) dL_law_939 rfl (Nat.le_of_ble_eq_true rfl) rfl rfl (Nat.le_of_ble_eq_true rfl) ?_
  refine r_aload_n K dL_law_942 2 rfl rfl ?_
  refine r_aload_n K dL_law_943 0 rfl rfl ?_
  refine r_iload_n K dL_law_944 3 rfl rfl ?_
  refine r_iconst (v := 1) K dL_law_945 rfl ?_
  refine r_iadd K dL_law_946 ?_
  refine r_xald K XO dL_law_947 g268_ ?_
  refine r_aload_n K dL_law_948 0 rfl rfl ?_
  refine r_iload_n K dL_law_949 3 rfl rfl ?_
  refine r_iconst (v := 2) K dL_law_950 rfl ?_
  refine r_iadd K dL_law_951 ?_
  refine r_xald K XO dL_law_952 g269_ ?_
  obtain ⟨r275_, h276_, g277_, hf⟩ := e_2 hf
  refine r_callV (av := [.int (xs (ix (x3 + 1))), .int (xs (ix (x3 + 2)))]) (st := [.int r270_]) K lkL_108 mwX10_slips (conX10_slips (xs (ix (x3 + 1))) (xs (ix (x3 + 2))) h271_ r275_ h276_ g277_) dL_law_953 rfl (Nat.le_of_ble_eq_true rfl) rfl rfl (Nat.le_of_ble_eq_true rfl) ?_
  refine r_icmp_eq (tgt := 1486) K dL_law_956 (by decide) (fun c278_ => ?_) (fun c278_ => ?_)
  · have hf := e_t hf c278_
    refine r_lv [0, 1, 2, 3] rfl ?_
    exact sL_law_1486 K Z xs L XO Q18 hQ18 x3 h276_ hf
  · have hf := e_f hf c278_
    refine r_iconst (v := 0) K dL_law_959 rfl ?_
    exact r_lawret K Z dL_law_960 hf
def fL_law_961 (xs : Nat → Int32) (L : Nat) (Q18 : Int32 → AH → Option (Int32 × AH)) (x3 : Int32) (h : AH) : Option (Int32 × AH) :=
  bind2 (fX9_minute  h) fun r280_ h281_ => bind2 (fX10_minute  h281_) fun r283_ h284_ => if r280_ = r283_ then fL_law_1486 xs L Q18 x3 h284_ else some (0, h284_)
set_option maxRecDepth 10000 in
theorem sL_law_961 {G : GG} {E : EE} {h' : AH} (K : OK G E 99 RL cL_law 4) (Z : RTL G E) (xs : Nat → Int32) (L : Nat) (XO : XOK G E L xs) (Q18 : Int32 → AH → Option (Int32 × AH)) (hQ18 : ∀ (x3 : Int32) (h : AH), Q18 x3 h = some (1, h') → JJ G E 4 18 [(0, .ref 300), (1, .ref 0), (2, .ref 59), (3, .int x3)] [] h) (x3 : Int32) (h : AH) (hf : fL_law_961 xs L Q18 x3 h = some (1, h')) : JJ G E 4 961 [(0, .ref 300), (1, .ref 0), (2, .ref 59), (3, .int x3)] [] h := by
  unfold fL_law_961 at hf
  refine r_aload_n K dL_law_961 1 rfl rfl ?_
  obtain ⟨r280_, h281_, g282_, hf⟩ := e_2 hf
  refine r_callV (av := []) (st := []) K lkL_109 mwX9_minute (conX9_minute  h r280_ h281_ g282_) dL_law_962 rfl (Nat.le_of_ble_eq_true rfl) rfl rfl (Nat.le_of_ble_eq_true rfl) ?_
  refine r_aload_n K dL_law_965 2 rfl rfl ?_
  obtain ⟨r283_, h284_, g285_, hf⟩ := e_2 hf
  refine r_callV (av := []) (st := [.int r280_]) K lkL_112 mwX10_minute (conX10_minute  h281_ r283_ h284_ g285_) dL_law_966 rfl (Nat.le_of_ble_eq_true rfl) rfl rfl (Nat.le_of_ble_eq_true rfl) ?_
  refine r_icmp_eq (tgt := 1486) K dL_law_969 (by decide) (fun c286_ => ?_) (fun c286_ => ?_)
  · have hf := e_t hf c286_
    refine r_lv [0, 1, 2, 3] rfl ?_
    exact sL_law_1486 K Z xs L XO Q18 hQ18 x3 h284_ hf
  · have hf := e_f hf c286_
    refine r_iconst (v := 0) K dL_law_972 rfl ?_
    exact r_lawret K Z dL_law_973 hf
def fL_law_974 (xs : Nat → Int32) (L : Nat) (Q18 : Int32 → AH → Option (Int32 × AH)) (x3 : Int32) (h : AH) : Option (Int32 × AH) :=
  bind2 (fX9_goes  h) fun r288_ h289_ => bind2 (fX10_goes  h289_) fun r291_ h292_ => if r288_ = r291_ then fL_law_1486 xs L Q18 x3 h292_ else some (0, h292_)
set_option maxRecDepth 10000 in
theorem sL_law_974 {G : GG} {E : EE} {h' : AH} (K : OK G E 99 RL cL_law 4) (Z : RTL G E) (xs : Nat → Int32) (L : Nat) (XO : XOK G E L xs) (Q18 : Int32 → AH → Option (Int32 × AH)) (hQ18 : ∀ (x3 : Int32) (h : AH), Q18 x3 h = some (1, h') → JJ G E 4 18 [(0, .ref 300), (1, .ref 0), (2, .ref 59), (3, .int x3)] [] h) (x3 : Int32) (h : AH) (hf : fL_law_974 xs L Q18 x3 h = some (1, h')) : JJ G E 4 974 [(0, .ref 300), (1, .ref 0), (2, .ref 59), (3, .int x3)] [] h := by
  unfold fL_law_974 at hf
  refine r_aload_n K dL_law_974 1 rfl rfl ?_
  obtain ⟨r288_, h289_, g290_, hf⟩ := e_2 hf
  refine r_callV (av := []) (st := []) K lkL_113 mwX9_goes (conX9_goes  h r288_ h289_ g290_) dL_law_975 rfl (Nat.le_of_ble_eq_true rfl) rfl rfl (Nat.le_of_ble_eq_true rfl) ?_
  refine r_aload_n K dL_law_978 2 rfl rfl ?_
  obtain ⟨r291_, h292_, g293_, hf⟩ := e_2 hf
  refine r_callV (av := []) (st := [.int r288_]) K lkL_116 mwX10_goes (conX10_goes  h289_ r291_ h292_ g293_) dL_law_979 rfl (Nat.le_of_ble_eq_true rfl) rfl rfl (Nat.le_of_ble_eq_true rfl) ?_
  refine r_icmp_eq (tgt := 1486) K dL_law_982 (by decide) (fun c294_ => ?_) (fun c294_ => ?_)
  · have hf := e_t hf c294_
    refine r_lv [0, 1, 2, 3] rfl ?_
    exact sL_law_1486 K Z xs L XO Q18 hQ18 x3 h292_ hf
  · have hf := e_f hf c294_
    refine r_iconst (v := 0) K dL_law_985 rfl ?_
    exact r_lawret K Z dL_law_986 hf
def fL_law_987 (xs : Nat → Int32) (L : Nat) (Q18 : Int32 → AH → Option (Int32 × AH)) (x3 : Int32) (h : AH) : Option (Int32 × AH) :=
  if inb (x3 + 1) L = true then if inb (x3 + 2) L = true then bind2 (fX9_looks (xs (ix (x3 + 1))) (xs (ix (x3 + 2))) h) fun r298_ h299_ => bind2 (fX10_looks (xs (ix (x3 + 1))) (xs (ix (x3 + 2))) h299_) fun r303_ h304_ => if r298_ = r303_ then fL_law_1486 xs L Q18 x3 h304_ else some (0, h304_) else none else none
set_option maxRecDepth 10000 in
theorem sL_law_987 {G : GG} {E : EE} {h' : AH} (K : OK G E 99 RL cL_law 4) (Z : RTL G E) (xs : Nat → Int32) (L : Nat) (XO : XOK G E L xs) (Q18 : Int32 → AH → Option (Int32 × AH)) (hQ18 : ∀ (x3 : Int32) (h : AH), Q18 x3 h = some (1, h') → JJ G E 4 18 [(0, .ref 300), (1, .ref 0), (2, .ref 59), (3, .int x3)] [] h) (x3 : Int32) (h : AH) (hf : fL_law_987 xs L Q18 x3 h = some (1, h')) : JJ G E 4 987 [(0, .ref 300), (1, .ref 0), (2, .ref 59), (3, .int x3)] [] h := by
  unfold fL_law_987 at hf
  refine r_aload_n K dL_law_987 1 rfl rfl ?_
  refine r_aload_n K dL_law_988 0 rfl rfl ?_
  refine r_iload_n K dL_law_989 3 rfl rfl ?_
  refine r_iconst (v := 1) K dL_law_990 rfl ?_
  refine r_iadd K dL_law_991 ?_
  obtain ⟨g296_, hf⟩ := e_g hf
  refine r_xald K XO dL_law_992 g296_ ?_
  refine r_aload_n K dL_law_993 0 rfl rfl ?_
  refine r_iload_n K dL_law_994 3 rfl rfl ?_
  refine r_iconst (v := 2) K dL_law_995 rfl ?_
  refine r_iadd K dL_law_996 ?_
  obtain ⟨g297_, hf⟩ := e_g hf
  refine r_xald K XO dL_law_997 g297_ ?_
  obtain ⟨r298_, h299_, g300_, hf⟩ := e_2 hf
  refine r_callV (av := [.int (xs (ix (x3 + 1))), .int (xs (ix (x3 + 2)))]) (st := []) K lkL_117 mwX9_looks (conX9_looks (xs (ix (x3 + 1))) (xs (ix (x3 + 2))) h r298_ h299_ g300_) dL_law_998 rfl (Nat.le_of_ble_eq_true rfl) rfl rfl (Nat.le_of_ble_eq_true rfl) ?_
  refine r_aload_n K dL_law_1001 2 rfl rfl ?_
  refine r_aload_n K dL_law_1002 0 rfl rfl ?_
  refine r_iload_n K dL_law_1003 3 rfl rfl ?_
  refine r_iconst (v := 1) K dL_law_1004 rfl ?_
  refine r_iadd K dL_law_1005 ?_
  refine r_xald K XO dL_law_1006 g296_ ?_
  refine r_aload_n K dL_law_1007 0 rfl rfl ?_
  refine r_iload_n K dL_law_1008 3 rfl rfl ?_
  refine r_iconst (v := 2) K dL_law_1009 rfl ?_
  refine r_iadd K dL_law_1010 ?_
  refine r_xald K XO dL_law_1011 g297_ ?_
  obtain ⟨r303_, h304_, g305_, hf⟩ := e_2 hf
  refine r_callV (av := [.int (xs (ix (x3 + 1))), .int (xs (ix (x3 + 2)))]) (st := [.int r298_]) K lkL_120 mwX10_looks (conX10_looks (xs (ix (x3 + 1))) (xs (ix (x3 + 2))) h299_ r303_ h304_ g305_) dL_law_1012 rfl (Nat.le_of_ble_eq_true rfl) rfl rfl (Nat.le_of_ble_eq_true rfl) ?_
  refine r_icmp_eq (tgt := 1486) K dL_law_1015 (by decide) (fun c306_ => ?_) (fun c306_ => ?_)
  · have hf := e_t hf c306_
    refine r_lv [0, 1, 2, 3] rfl ?_
    exact sL_law_1486 K Z xs L XO Q18 hQ18 x3 h304_ hf
  · have hf := e_f hf c306_
    refine r_iconst (v := 0) K dL_law_1018 rfl ?_
    exact r_lawret K Z dL_law_1019 hf
def fL_law_1020 (xs : Nat → Int32) (L : Nat) (Q18 : Int32 → AH → Option (Int32 × AH)) (x3 : Int32) (h : AH) : Option (Int32 × AH) :=
  if inb (x3 + 1) L = true then bind2 (fX9_led (xs (ix (x3 + 1))) h) fun r309_ h310_ => bind2 (fX10_led (xs (ix (x3 + 1))) h310_) fun r313_ h314_ => if r309_ = r313_ then fL_law_1486 xs L Q18 x3 h314_ else some (0, h314_) else none
set_option maxRecDepth 10000 in
theorem sL_law_1020 {G : GG} {E : EE} {h' : AH} (K : OK G E 99 RL cL_law 4) (Z : RTL G E) (xs : Nat → Int32) (L : Nat) (XO : XOK G E L xs) (Q18 : Int32 → AH → Option (Int32 × AH)) (hQ18 : ∀ (x3 : Int32) (h : AH), Q18 x3 h = some (1, h') → JJ G E 4 18 [(0, .ref 300), (1, .ref 0), (2, .ref 59), (3, .int x3)] [] h) (x3 : Int32) (h : AH) (hf : fL_law_1020 xs L Q18 x3 h = some (1, h')) : JJ G E 4 1020 [(0, .ref 300), (1, .ref 0), (2, .ref 59), (3, .int x3)] [] h := by
  unfold fL_law_1020 at hf
  refine r_aload_n K dL_law_1020 1 rfl rfl ?_
  refine r_aload_n K dL_law_1021 0 rfl rfl ?_
  refine r_iload_n K dL_law_1022 3 rfl rfl ?_
  refine r_iconst (v := 1) K dL_law_1023 rfl ?_
  refine r_iadd K dL_law_1024 ?_
  obtain ⟨g308_, hf⟩ := e_g hf
  refine r_xald K XO dL_law_1025 g308_ ?_
  obtain ⟨r309_, h310_, g311_, hf⟩ := e_2 hf
  refine r_callV (av := [.int (xs (ix (x3 + 1)))]) (st := []) K lkL_121 mwX9_led (conX9_led (xs (ix (x3 + 1))) h r309_ h310_ g311_) dL_law_1026 rfl (Nat.le_of_ble_eq_true rfl) rfl rfl (Nat.le_of_ble_eq_true rfl) ?_
  refine r_aload_n K dL_law_1029 2 rfl rfl ?_
  refine r_aload_n K dL_law_1030 0 rfl rfl ?_
  refine r_iload_n K dL_law_1031 3 rfl rfl ?_
  refine r_iconst (v := 1) K dL_law_1032 rfl ?_
  refine r_iadd K dL_law_1033 ?_
  refine r_xald K XO dL_law_1034 g308_ ?_
  obtain ⟨r313_, h314_, g315_, hf⟩ := e_2 hf
  refine r_callV (av := [.int (xs (ix (x3 + 1)))]) (st := [.int r309_]) K lkL_124 mwX10_led (conX10_led (xs (ix (x3 + 1))) h310_ r313_ h314_ g315_) dL_law_1035 rfl (Nat.le_of_ble_eq_true rfl) rfl rfl (Nat.le_of_ble_eq_true rfl) ?_
  refine r_icmp_eq (tgt := 1486) K dL_law_1038 (by decide) (fun c316_ => ?_) (fun c316_ => ?_)
  · have hf := e_t hf c316_
    refine r_lv [0, 1, 2, 3] rfl ?_
    exact sL_law_1486 K Z xs L XO Q18 hQ18 x3 h314_ hf
  · have hf := e_f hf c316_
    refine r_iconst (v := 0) K dL_law_1041 rfl ?_
    exact r_lawret K Z dL_law_1042 hf
def fL_law_1043 (xs : Nat → Int32) (L : Nat) (Q18 : Int32 → AH → Option (Int32 × AH)) (x3 : Int32) (h : AH) : Option (Int32 × AH) :=
  bind2 (fX9_image  h) fun r318_ h319_ => bind2 (fX10_image  h319_) fun r321_ h322_ => if r318_ = r321_ then fL_law_1486 xs L Q18 x3 h322_ else some (0, h322_)
set_option maxRecDepth 10000 in
theorem sL_law_1043 {G : GG} {E : EE} {h' : AH} (K : OK G E 99 RL cL_law 4) (Z : RTL G E) (xs : Nat → Int32) (L : Nat) (XO : XOK G E L xs) (Q18 : Int32 → AH → Option (Int32 × AH)) (hQ18 : ∀ (x3 : Int32) (h : AH), Q18 x3 h = some (1, h') → JJ G E 4 18 [(0, .ref 300), (1, .ref 0), (2, .ref 59), (3, .int x3)] [] h) (x3 : Int32) (h : AH) (hf : fL_law_1043 xs L Q18 x3 h = some (1, h')) : JJ G E 4 1043 [(0, .ref 300), (1, .ref 0), (2, .ref 59), (3, .int x3)] [] h := by
  unfold fL_law_1043 at hf
  refine r_aload_n K dL_law_1043 1 rfl rfl ?_
  obtain ⟨r318_, h319_, g320_, hf⟩ := e_2 hf
  refine r_callV (av := []) (st := []) K lkL_125 mwX9_image (conX9_image  h r318_ h319_ g320_) dL_law_1044 rfl (Nat.le_of_ble_eq_true rfl) rfl rfl (Nat.le_of_ble_eq_true rfl) ?_
  refine r_aload_n K dL_law_1047 2 rfl rfl ?_
  obtain ⟨r321_, h322_, g323_, hf⟩ := e_2 hf
  refine r_callV (av := []) (st := [.int r318_]) K lkL_128 mwX10_image (conX10_image  h319_ r321_ h322_ g323_) dL_law_1048 rfl (Nat.le_of_ble_eq_true rfl) rfl rfl (Nat.le_of_ble_eq_true rfl) ?_
  refine r_icmp_eq (tgt := 1486) K dL_law_1051 (by decide) (fun c324_ => ?_) (fun c324_ => ?_)
  · have hf := e_t hf c324_
    refine r_lv [0, 1, 2, 3] rfl ?_
    exact sL_law_1486 K Z xs L XO Q18 hQ18 x3 h322_ hf
  · have hf := e_f hf c324_
    refine r_iconst (v := 0) K dL_law_1054 rfl ?_
    exact r_lawret K Z dL_law_1055 hf
def fL_law_1056 (xs : Nat → Int32) (L : Nat) (Q18 : Int32 → AH → Option (Int32 × AH)) (x3 : Int32) (h : AH) : Option (Int32 × AH) :=
  bind2 (fX9_back  h) fun r326_ h327_ => bind2 (fX10_back  h327_) fun r329_ h330_ => if r326_ = r329_ then fL_law_1486 xs L Q18 x3 h330_ else some (0, h330_)
set_option maxRecDepth 10000 in
theorem sL_law_1056 {G : GG} {E : EE} {h' : AH} (K : OK G E 99 RL cL_law 4) (Z : RTL G E) (xs : Nat → Int32) (L : Nat) (XO : XOK G E L xs) (Q18 : Int32 → AH → Option (Int32 × AH)) (hQ18 : ∀ (x3 : Int32) (h : AH), Q18 x3 h = some (1, h') → JJ G E 4 18 [(0, .ref 300), (1, .ref 0), (2, .ref 59), (3, .int x3)] [] h) (x3 : Int32) (h : AH) (hf : fL_law_1056 xs L Q18 x3 h = some (1, h')) : JJ G E 4 1056 [(0, .ref 300), (1, .ref 0), (2, .ref 59), (3, .int x3)] [] h := by
  unfold fL_law_1056 at hf
  refine r_aload_n K dL_law_1056 1 rfl rfl ?_
  obtain ⟨r326_, h327_, g328_, hf⟩ := e_2 hf
  refine r_callV (av := []) (st := []) K lkL_129 mwX9_back (conX9_back  h r326_ h327_ g328_) dL_law_1057 rfl (Nat.le_of_ble_eq_true rfl) rfl rfl (Nat.le_of_ble_eq_true rfl) ?_
  refine r_aload_n K dL_law_1060 2 rfl rfl ?_
  obtain ⟨r329_, h330_, g331_, hf⟩ := e_2 hf
  refine r_callV (av := []) (st := [.int r326_]) K lkL_132 mwX10_back (conX10_back  h327_ r329_ h330_ g331_) dL_law_1061 rfl (Nat.le_of_ble_eq_true rfl) rfl rfl (Nat.le_of_ble_eq_true rfl) ?_
  refine r_icmp_eq (tgt := 1486) K dL_law_1064 (by decide) (fun c332_ => ?_) (fun c332_ => ?_)
  · have hf := e_t hf c332_
    refine r_lv [0, 1, 2, 3] rfl ?_
    exact sL_law_1486 K Z xs L XO Q18 hQ18 x3 h330_ hf
  · have hf := e_f hf c332_
    refine r_iconst (v := 0) K dL_law_1067 rfl ?_
    exact r_lawret K Z dL_law_1068 hf
def fL_law_1069 (xs : Nat → Int32) (L : Nat) (Q18 : Int32 → AH → Option (Int32 × AH)) (x3 : Int32) (h : AH) : Option (Int32 × AH) :=
  bind2 (fX9_undo  h) fun r334_ h335_ => bind2 (fX10_undo  h335_) fun r337_ h338_ => if r334_ = r337_ then fL_law_1486 xs L Q18 x3 h338_ else some (0, h338_)
set_option maxRecDepth 10000 in
theorem sL_law_1069 {G : GG} {E : EE} {h' : AH} (K : OK G E 99 RL cL_law 4) (Z : RTL G E) (xs : Nat → Int32) (L : Nat) (XO : XOK G E L xs) (Q18 : Int32 → AH → Option (Int32 × AH)) (hQ18 : ∀ (x3 : Int32) (h : AH), Q18 x3 h = some (1, h') → JJ G E 4 18 [(0, .ref 300), (1, .ref 0), (2, .ref 59), (3, .int x3)] [] h) (x3 : Int32) (h : AH) (hf : fL_law_1069 xs L Q18 x3 h = some (1, h')) : JJ G E 4 1069 [(0, .ref 300), (1, .ref 0), (2, .ref 59), (3, .int x3)] [] h := by
  unfold fL_law_1069 at hf
  refine r_aload_n K dL_law_1069 1 rfl rfl ?_
  obtain ⟨r334_, h335_, g336_, hf⟩ := e_2 hf
  refine r_callV (av := []) (st := []) K lkL_133 mwX9_undo (conX9_undo  h r334_ h335_ g336_) dL_law_1070 rfl (Nat.le_of_ble_eq_true rfl) rfl rfl (Nat.le_of_ble_eq_true rfl) ?_
  refine r_aload_n K dL_law_1073 2 rfl rfl ?_
  obtain ⟨r337_, h338_, g339_, hf⟩ := e_2 hf
  refine r_callV (av := []) (st := [.int r334_]) K lkL_136 mwX10_undo (conX10_undo  h335_ r337_ h338_ g339_) dL_law_1074 rfl (Nat.le_of_ble_eq_true rfl) rfl rfl (Nat.le_of_ble_eq_true rfl) ?_
  refine r_icmp_eq (tgt := 1486) K dL_law_1077 (by decide) (fun c340_ => ?_) (fun c340_ => ?_)
  · have hf := e_t hf c340_
    refine r_lv [0, 1, 2, 3] rfl ?_
    exact sL_law_1486 K Z xs L XO Q18 hQ18 x3 h338_ hf
  · have hf := e_f hf c340_
    refine r_iconst (v := 0) K dL_law_1080 rfl ?_
    exact r_lawret K Z dL_law_1081 hf
def fL_law_1082 (xs : Nat → Int32) (L : Nat) (Q18 : Int32 → AH → Option (Int32 × AH)) (x3 : Int32) (h : AH) : Option (Int32 × AH) :=
  bind2 (fX9_redo  h) fun r342_ h343_ => bind2 (fX10_redo  h343_) fun r345_ h346_ => if r342_ = r345_ then fL_law_1486 xs L Q18 x3 h346_ else some (0, h346_)
set_option maxRecDepth 10000 in
theorem sL_law_1082 {G : GG} {E : EE} {h' : AH} (K : OK G E 99 RL cL_law 4) (Z : RTL G E) (xs : Nat → Int32) (L : Nat) (XO : XOK G E L xs) (Q18 : Int32 → AH → Option (Int32 × AH)) (hQ18 : ∀ (x3 : Int32) (h : AH), Q18 x3 h = some (1, h') → JJ G E 4 18 [(0, .ref 300), (1, .ref 0), (2, .ref 59), (3, .int x3)] [] h) (x3 : Int32) (h : AH) (hf : fL_law_1082 xs L Q18 x3 h = some (1, h')) : JJ G E 4 1082 [(0, .ref 300), (1, .ref 0), (2, .ref 59), (3, .int x3)] [] h := by
  unfold fL_law_1082 at hf
  refine r_aload_n K dL_law_1082 1 rfl rfl ?_
  obtain ⟨r342_, h343_, g344_, hf⟩ := e_2 hf
  refine r_callV (av := []) (st := []) K lkL_137 mwX9_redo (conX9_redo  h r342_ h343_ g344_) dL_law_1083 rfl (Nat.le_of_ble_eq_true rfl) rfl rfl (Nat.le_of_ble_eq_true rfl) ?_
  refine r_aload_n K dL_law_1086 2 rfl rfl ?_
  obtain ⟨r345_, h346_, g347_, hf⟩ := e_2 hf
  refine r_callV (av := []) (st := [.int r342_]) K lkL_140 mwX10_redo (conX10_redo  h343_ r345_ h346_ g347_) dL_law_1087 rfl (Nat.le_of_ble_eq_true rfl) rfl rfl (Nat.le_of_ble_eq_true rfl) ?_
  refine r_icmp_eq (tgt := 1486) K dL_law_1090 (by decide) (fun c348_ => ?_) (fun c348_ => ?_)
  · have hf := e_t hf c348_
    refine r_lv [0, 1, 2, 3] rfl ?_
    exact sL_law_1486 K Z xs L XO Q18 hQ18 x3 h346_ hf
  · have hf := e_f hf c348_
    refine r_iconst (v := 0) K dL_law_1093 rfl ?_
    exact r_lawret K Z dL_law_1094 hf
def fL_law_1095 (xs : Nat → Int32) (L : Nat) (Q18 : Int32 → AH → Option (Int32 × AH)) (x3 : Int32) (h : AH) : Option (Int32 × AH) :=
  if inb (x3 + 1) L = true then bind2 (fX9_body (xs (ix (x3 + 1))) h) fun r351_ h352_ => bind2 (fX10_body (xs (ix (x3 + 1))) h352_) fun r355_ h356_ => if r351_ = r355_ then fL_law_1486 xs L Q18 x3 h356_ else some (0, h356_) else none
set_option maxRecDepth 10000 in
theorem sL_law_1095 {G : GG} {E : EE} {h' : AH} (K : OK G E 99 RL cL_law 4) (Z : RTL G E) (xs : Nat → Int32) (L : Nat) (XO : XOK G E L xs) (Q18 : Int32 → AH → Option (Int32 × AH)) (hQ18 : ∀ (x3 : Int32) (h : AH), Q18 x3 h = some (1, h') → JJ G E 4 18 [(0, .ref 300), (1, .ref 0), (2, .ref 59), (3, .int x3)] [] h) (x3 : Int32) (h : AH) (hf : fL_law_1095 xs L Q18 x3 h = some (1, h')) : JJ G E 4 1095 [(0, .ref 300), (1, .ref 0), (2, .ref 59), (3, .int x3)] [] h := by
  unfold fL_law_1095 at hf
  refine r_aload_n K dL_law_1095 1 rfl rfl ?_
  refine r_aload_n K dL_law_1096 0 rfl rfl ?_
  refine r_iload_n K dL_law_1097 3 rfl rfl ?_
  refine r_iconst (v := 1) K dL_law_1098 rfl ?_
  refine r_iadd K dL_law_1099 ?_
  obtain ⟨g350_, hf⟩ := e_g hf
  refine r_xald K XO dL_law_1100 g350_ ?_
  obtain ⟨r351_, h352_, g353_, hf⟩ := e_2 hf
  refine r_callV (av := [.int (xs (ix (x3 + 1)))]) (st := []) K lkL_141 mwX9_body (conX9_body (xs (ix (x3 + 1))) h r351_ h352_ g353_) dL_law_1101 rfl (Nat.le_of_ble_eq_true rfl) rfl rfl (Nat.le_of_ble_eq_true rfl) ?_
  refine r_aload_n K dL_law_1104 2 rfl rfl ?_
  refine r_aload_n K dL_law_1105 0 rfl rfl ?_
  refine r_iload_n K dL_law_1106 3 rfl rfl ?_
  refine r_iconst (v := 1) K dL_law_1107 rfl ?_
  refine r_iadd K dL_law_1108 ?_
  refine r_xald K XO dL_law_1109 g350_ ?_
  obtain ⟨r355_, h356_, g357_, hf⟩ := e_2 hf
  refine r_callV (av := [.int (xs (ix (x3 + 1)))]) (st := [.int r351_]) K lkL_144 mwX10_body (conX10_body (xs (ix (x3 + 1))) h352_ r355_ h356_ g357_) dL_law_1110 rfl (Nat.le_of_ble_eq_true rfl) rfl rfl (Nat.le_of_ble_eq_true rfl) ?_
  refine r_icmp_eq (tgt := 1486) K dL_law_1113 (by decide) (fun c358_ => ?_) (fun c358_ => ?_)
  · have hf := e_t hf c358_
    refine r_lv [0, 1, 2, 3] rfl ?_
    exact sL_law_1486 K Z xs L XO Q18 hQ18 x3 h356_ hf
  · have hf := e_f hf c358_
    refine r_iconst (v := 0) K dL_law_1116 rfl ?_
    exact r_lawret K Z dL_law_1117 hf
def fL_law_1118 (xs : Nat → Int32) (L : Nat) (Q18 : Int32 → AH → Option (Int32 × AH)) (x3 : Int32) (h : AH) : Option (Int32 × AH) :=
  if inb (x3 + 1) L = true then if inb (x3 + 2) L = true then if inb (x3 + 3) L = true then bind2 (fX9_act (xs (ix (x3 + 1))) (xs (ix (x3 + 2))) (xs (ix (x3 + 3))) h) fun r363_ h364_ => bind2 (fX10_act (xs (ix (x3 + 1))) (xs (ix (x3 + 2))) (xs (ix (x3 + 3))) h364_) fun r369_ h370_ => if r363_ = r369_ then fL_law_1486 xs L Q18 x3 h370_ else some (0, h370_) else none else none else none
set_option maxRecDepth 10000 in
theorem sL_law_1118 {G : GG} {E : EE} {h' : AH} (K : OK G E 99 RL cL_law 4) (Z : RTL G E) (xs : Nat → Int32) (L : Nat) (XO : XOK G E L xs) (Q18 : Int32 → AH → Option (Int32 × AH)) (hQ18 : ∀ (x3 : Int32) (h : AH), Q18 x3 h = some (1, h') → JJ G E 4 18 [(0, .ref 300), (1, .ref 0), (2, .ref 59), (3, .int x3)] [] h) (x3 : Int32) (h : AH) (hf : fL_law_1118 xs L Q18 x3 h = some (1, h')) : JJ G E 4 1118 [(0, .ref 300), (1, .ref 0), (2, .ref 59), (3, .int x3)] [] h := by
  unfold fL_law_1118 at hf
  refine r_aload_n K dL_law_1118 1 rfl rfl ?_
  refine r_aload_n K dL_law_1119 0 rfl rfl ?_
  refine r_iload_n K dL_law_1120 3 rfl rfl ?_
  refine r_iconst (v := 1) K dL_law_1121 rfl ?_
  refine r_iadd K dL_law_1122 ?_
  obtain ⟨g360_, hf⟩ := e_g hf
  refine r_xald K XO dL_law_1123 g360_ ?_
  refine r_aload_n K dL_law_1124 0 rfl rfl ?_
  refine r_iload_n K dL_law_1125 3 rfl rfl ?_
  refine r_iconst (v := 2) K dL_law_1126 rfl ?_
  refine r_iadd K dL_law_1127 ?_
  obtain ⟨g361_, hf⟩ := e_g hf
  refine r_xald K XO dL_law_1128 g361_ ?_
  refine r_aload_n K dL_law_1129 0 rfl rfl ?_
  refine r_iload_n K dL_law_1130 3 rfl rfl ?_
  refine r_iconst (v := 3) K dL_law_1131 rfl ?_
  refine r_iadd K dL_law_1132 ?_
  obtain ⟨g362_, hf⟩ := e_g hf
  refine r_xald K XO dL_law_1133 g362_ ?_
  obtain ⟨r363_, h364_, g365_, hf⟩ := e_2 hf
  refine r_callV (av := [.int (xs (ix (x3 + 1))), .int (xs (ix (x3 + 2))), .int (xs (ix (x3 + 3)))]) (st := []) K lkL_145 mwX9_act (conX9_act (xs (ix (x3 + 1))) (xs (ix (x3 + 2))) (xs (ix (x3 + 3))) h r363_ h364_ g365_) dL_law_1134 rfl (Nat.le_of_ble_eq_true rfl) rfl rfl (Nat.le_of_ble_eq_true rfl) ?_
  refine r_aload_n K dL_law_1137 2 rfl rfl ?_
  refine r_aload_n K dL_law_1138 0 rfl rfl ?_
  refine r_iload_n K dL_law_1139 3 rfl rfl ?_
  refine r_iconst (v := 1) K dL_law_1140 rfl ?_
  refine r_iadd K dL_law_1141 ?_
  refine r_xald K XO dL_law_1142 g360_ ?_
  refine r_aload_n K dL_law_1143 0 rfl rfl ?_
  refine r_iload_n K dL_law_1144 3 rfl rfl ?_
  refine r_iconst (v := 2) K dL_law_1145 rfl ?_
  refine r_iadd K dL_law_1146 ?_
  refine r_xald K XO dL_law_1147 g361_ ?_
  refine r_aload_n K dL_law_1148 0 rfl rfl ?_
  refine r_iload_n K dL_law_1149 3 rfl rfl ?_
  refine r_iconst (v := 3) K dL_law_1150 rfl ?_
  refine r_iadd K dL_law_1151 ?_
  refine r_xald K XO dL_law_1152 g362_ ?_
  obtain ⟨r369_, h370_, g371_, hf⟩ := e_2 hf
  refine r_callV (av := [.int (xs (ix (x3 + 1))), .int (xs (ix (x3 + 2))), .int (xs (ix (x3 + 3)))]) (st := [.int r363_]) K lkL_148 mwX10_act (conX10_act (xs (ix (x3 + 1))) (xs (ix (x3 + 2))) (xs (ix (x3 + 3))) h364_ r369_ h370_ g371_) dL_law_1153 rfl (Nat.le_of_ble_eq_true rfl) rfl rfl (Nat.le_of_ble_eq_true rfl) ?_
  refine r_icmp_eq (tgt := 1486) K dL_law_1156 (by decide) (fun c372_ => ?_) (fun c372_ => ?_)
  · have hf := e_t hf c372_
    refine r_lv [0, 1, 2, 3] rfl ?_
    exact sL_law_1486 K Z xs L XO Q18 hQ18 x3 h370_ hf
  · have hf := e_f hf c372_
    refine r_iconst (v := 0) K dL_law_1159 rfl ?_
    exact r_lawret K Z dL_law_1160 hf
def fL_law_1161 (xs : Nat → Int32) (L : Nat) (Q18 : Int32 → AH → Option (Int32 × AH)) (x3 : Int32) (h : AH) : Option (Int32 × AH) :=
  if inb (x3 + 1) L = true then bind2 (fX9_trace (xs (ix (x3 + 1))) h) fun r375_ h376_ => bind2 (fX10_trace (xs (ix (x3 + 1))) h376_) fun r379_ h380_ => if r375_ = r379_ then fL_law_1486 xs L Q18 x3 h380_ else some (0, h380_) else none
set_option maxRecDepth 10000 in
theorem sL_law_1161 {G : GG} {E : EE} {h' : AH} (K : OK G E 99 RL cL_law 4) (Z : RTL G E) (xs : Nat → Int32) (L : Nat) (XO : XOK G E L xs) (Q18 : Int32 → AH → Option (Int32 × AH)) (hQ18 : ∀ (x3 : Int32) (h : AH), Q18 x3 h = some (1, h') → JJ G E 4 18 [(0, .ref 300), (1, .ref 0), (2, .ref 59), (3, .int x3)] [] h) (x3 : Int32) (h : AH) (hf : fL_law_1161 xs L Q18 x3 h = some (1, h')) : JJ G E 4 1161 [(0, .ref 300), (1, .ref 0), (2, .ref 59), (3, .int x3)] [] h := by
  unfold fL_law_1161 at hf
  refine r_aload_n K dL_law_1161 1 rfl rfl ?_
  refine r_aload_n K dL_law_1162 0 rfl rfl ?_
  refine r_iload_n K dL_law_1163 3 rfl rfl ?_
  refine r_iconst (v := 1) K dL_law_1164 rfl ?_
  refine r_iadd K dL_law_1165 ?_
  obtain ⟨g374_, hf⟩ := e_g hf
  refine r_xald K XO dL_law_1166 g374_ ?_
  obtain ⟨r375_, h376_, g377_, hf⟩ := e_2 hf
  refine r_callV (av := [.int (xs (ix (x3 + 1)))]) (st := []) K lkL_149 mwX9_trace (conX9_trace (xs (ix (x3 + 1))) h r375_ h376_ g377_) dL_law_1167 rfl (Nat.le_of_ble_eq_true rfl) rfl rfl (Nat.le_of_ble_eq_true rfl) ?_
  refine r_aload_n K dL_law_1170 2 rfl rfl ?_
  refine r_aload_n K dL_law_1171 0 rfl rfl ?_
  refine r_iload_n K dL_law_1172 3 rfl rfl ?_
  refine r_iconst (v := 1) K dL_law_1173 rfl ?_
  refine r_iadd K dL_law_1174 ?_
  refine r_xald K XO dL_law_1175 g374_ ?_
  obtain ⟨r379_, h380_, g381_, hf⟩ := e_2 hf
  refine r_callV (av := [.int (xs (ix (x3 + 1)))]) (st := [.int r375_]) K lkL_152 mwX10_trace (conX10_trace (xs (ix (x3 + 1))) h376_ r379_ h380_ g381_) dL_law_1176 rfl (Nat.le_of_ble_eq_true rfl) rfl rfl (Nat.le_of_ble_eq_true rfl) ?_
  refine r_icmp_eq (tgt := 1486) K dL_law_1179 (by decide) (fun c382_ => ?_) (fun c382_ => ?_)
  · have hf := e_t hf c382_
    refine r_lv [0, 1, 2, 3] rfl ?_
    exact sL_law_1486 K Z xs L XO Q18 hQ18 x3 h380_ hf
  · have hf := e_f hf c382_
    refine r_iconst (v := 0) K dL_law_1182 rfl ?_
    exact r_lawret K Z dL_law_1183 hf
def fL_law_1184 (xs : Nat → Int32) (L : Nat) (Q18 : Int32 → AH → Option (Int32 × AH)) (x3 : Int32) (h : AH) : Option (Int32 × AH) :=
  if inb (x3 + 1) L = true then if inb (x3 + 2) L = true then bind2 (fX9_keep (xs (ix (x3 + 1))) (xs (ix (x3 + 2))) h) fun r386_ h387_ => bind2 (fX10_keep (xs (ix (x3 + 1))) (xs (ix (x3 + 2))) h387_) fun r391_ h392_ => if r386_ = r391_ then fL_law_1486 xs L Q18 x3 h392_ else some (0, h392_) else none else none
set_option maxRecDepth 10000 in
theorem sL_law_1184 {G : GG} {E : EE} {h' : AH} (K : OK G E 99 RL cL_law 4) (Z : RTL G E) (xs : Nat → Int32) (L : Nat) (XO : XOK G E L xs) (Q18 : Int32 → AH → Option (Int32 × AH)) (hQ18 : ∀ (x3 : Int32) (h : AH), Q18 x3 h = some (1, h') → JJ G E 4 18 [(0, .ref 300), (1, .ref 0), (2, .ref 59), (3, .int x3)] [] h) (x3 : Int32) (h : AH) (hf : fL_law_1184 xs L Q18 x3 h = some (1, h')) : JJ G E 4 1184 [(0, .ref 300), (1, .ref 0), (2, .ref 59), (3, .int x3)] [] h := by
  unfold fL_law_1184 at hf
  refine r_aload_n K dL_law_1184 1 rfl rfl ?_
  refine r_aload_n K dL_law_1185 0 rfl rfl ?_
  refine r_iload_n K dL_law_1186 3 rfl rfl ?_
  refine r_iconst (v := 1) K dL_law_1187 rfl ?_
  refine r_iadd K dL_law_1188 ?_
  obtain ⟨g384_, hf⟩ := e_g hf
  refine r_xald K XO dL_law_1189 g384_ ?_
  refine r_aload_n K dL_law_1190 0 rfl rfl ?_
  refine r_iload_n K dL_law_1191 3 rfl rfl ?_
  refine r_iconst (v := 2) K dL_law_1192 rfl ?_
  refine r_iadd K dL_law_1193 ?_
  obtain ⟨g385_, hf⟩ := e_g hf
  refine r_xald K XO dL_law_1194 g385_ ?_
  obtain ⟨r386_, h387_, g388_, hf⟩ := e_2 hf
  refine r_callV (av := [.int (xs (ix (x3 + 1))), .int (xs (ix (x3 + 2)))]) (st := []) K lkL_153 mwX9_keep (conX9_keep (xs (ix (x3 + 1))) (xs (ix (x3 + 2))) h r386_ h387_ g388_) dL_law_1195 rfl (Nat.le_of_ble_eq_true rfl) rfl rfl (Nat.le_of_ble_eq_true rfl) ?_
  refine r_aload_n K dL_law_1198 2 rfl rfl ?_
  refine r_aload_n K dL_law_1199 0 rfl rfl ?_
  refine r_iload_n K dL_law_1200 3 rfl rfl ?_
  refine r_iconst (v := 1) K dL_law_1201 rfl ?_
  refine r_iadd K dL_law_1202 ?_
  refine r_xald K XO dL_law_1203 g384_ ?_
  refine r_aload_n K dL_law_1204 0 rfl rfl ?_
  refine r_iload_n K dL_law_1205 3 rfl rfl ?_
  refine r_iconst (v := 2) K dL_law_1206 rfl ?_
  refine r_iadd K dL_law_1207 ?_
  refine r_xald K XO dL_law_1208 g385_ ?_
  obtain ⟨r391_, h392_, g393_, hf⟩ := e_2 hf
  refine r_callV (av := [.int (xs (ix (x3 + 1))), .int (xs (ix (x3 + 2)))]) (st := [.int r386_]) K lkL_156 mwX10_keep (conX10_keep (xs (ix (x3 + 1))) (xs (ix (x3 + 2))) h387_ r391_ h392_ g393_) dL_law_1209 rfl (Nat.le_of_ble_eq_true rfl) rfl rfl (Nat.le_of_ble_eq_true rfl) ?_
  refine r_icmp_eq (tgt := 1486) K dL_law_1212 (by decide) (fun c394_ => ?_) (fun c394_ => ?_)
  · have hf := e_t hf c394_
    refine r_lv [0, 1, 2, 3] rfl ?_
    exact sL_law_1486 K Z xs L XO Q18 hQ18 x3 h392_ hf
  · have hf := e_f hf c394_
    refine r_iconst (v := 0) K dL_law_1215 rfl ?_
    exact r_lawret K Z dL_law_1216 hf
def fL_law_1217 (xs : Nat → Int32) (L : Nat) (Q18 : Int32 → AH → Option (Int32 × AH)) (x3 : Int32) (h : AH) : Option (Int32 × AH) :=
  if inb (x3 + 1) L = true then if inb (x3 + 2) L = true then if inb (x3 + 3) L = true then bind2 (fX9_row (xs (ix (x3 + 1))) (xs (ix (x3 + 2))) (xs (ix (x3 + 3))) h) fun r399_ h400_ => bind2 (fX10_row (xs (ix (x3 + 1))) (xs (ix (x3 + 2))) (xs (ix (x3 + 3))) h400_) fun r405_ h406_ => if r399_ = r405_ then fL_law_1486 xs L Q18 x3 h406_ else some (0, h406_) else none else none else none
set_option maxRecDepth 10000 in
theorem sL_law_1217 {G : GG} {E : EE} {h' : AH} (K : OK G E 99 RL cL_law 4) (Z : RTL G E) (xs : Nat → Int32) (L : Nat) (XO : XOK G E L xs) (Q18 : Int32 → AH → Option (Int32 × AH)) (hQ18 : ∀ (x3 : Int32) (h : AH), Q18 x3 h = some (1, h') → JJ G E 4 18 [(0, .ref 300), (1, .ref 0), (2, .ref 59), (3, .int x3)] [] h) (x3 : Int32) (h : AH) (hf : fL_law_1217 xs L Q18 x3 h = some (1, h')) : JJ G E 4 1217 [(0, .ref 300), (1, .ref 0), (2, .ref 59), (3, .int x3)] [] h := by
  unfold fL_law_1217 at hf
  refine r_aload_n K dL_law_1217 1 rfl rfl ?_
  refine r_aload_n K dL_law_1218 0 rfl rfl ?_
  refine r_iload_n K dL_law_1219 3 rfl rfl ?_
  refine r_iconst (v := 1) K dL_law_1220 rfl ?_
  refine r_iadd K dL_law_1221 ?_
  obtain ⟨g396_, hf⟩ := e_g hf
  refine r_xald K XO dL_law_1222 g396_ ?_
  refine r_aload_n K dL_law_1223 0 rfl rfl ?_
  refine r_iload_n K dL_law_1224 3 rfl rfl ?_
  refine r_iconst (v := 2) K dL_law_1225 rfl ?_
  refine r_iadd K dL_law_1226 ?_
  obtain ⟨g397_, hf⟩ := e_g hf
  refine r_xald K XO dL_law_1227 g397_ ?_
  refine r_aload_n K dL_law_1228 0 rfl rfl ?_
  refine r_iload_n K dL_law_1229 3 rfl rfl ?_
  refine r_iconst (v := 3) K dL_law_1230 rfl ?_
  refine r_iadd K dL_law_1231 ?_
  obtain ⟨g398_, hf⟩ := e_g hf
  refine r_xald K XO dL_law_1232 g398_ ?_
  obtain ⟨r399_, h400_, g401_, hf⟩ := e_2 hf
  refine r_callV (av := [.int (xs (ix (x3 + 1))), .int (xs (ix (x3 + 2))), .int (xs (ix (x3 + 3)))]) (st := []) K lkL_157 mwX9_row (conX9_row (xs (ix (x3 + 1))) (xs (ix (x3 + 2))) (xs (ix (x3 + 3))) h r399_ h400_ g401_) dL_law_1233 rfl (Nat.le_of_ble_eq_true rfl) rfl rfl (Nat.le_of_ble_eq_true rfl) ?_
  refine r_aload_n K dL_law_1236 2 rfl rfl ?_
  refine r_aload_n K dL_law_1237 0 rfl rfl ?_
  refine r_iload_n K dL_law_1238 3 rfl rfl ?_
  refine r_iconst (v := 1) K dL_law_1239 rfl ?_
  refine r_iadd K dL_law_1240 ?_
  refine r_xald K XO dL_law_1241 g396_ ?_
  refine r_aload_n K dL_law_1242 0 rfl rfl ?_
  refine r_iload_n K dL_law_1243 3 rfl rfl ?_
  refine r_iconst (v := 2) K dL_law_1244 rfl ?_
  refine r_iadd K dL_law_1245 ?_
  refine r_xald K XO dL_law_1246 g397_ ?_
  refine r_aload_n K dL_law_1247 0 rfl rfl ?_
  refine r_iload_n K dL_law_1248 3 rfl rfl ?_
  refine r_iconst (v := 3) K dL_law_1249 rfl ?_
  refine r_iadd K dL_law_1250 ?_
  refine r_xald K XO dL_law_1251 g398_ ?_
  obtain ⟨r405_, h406_, g407_, hf⟩ := e_2 hf
  refine r_callV (av := [.int (xs (ix (x3 + 1))), .int (xs (ix (x3 + 2))), .int (xs (ix (x3 + 3)))]) (st := [.int r399_]) K lkL_160 mwX10_row (conX10_row (xs (ix (x3 + 1))) (xs (ix (x3 + 2))) (xs (ix (x3 + 3))) h400_ r405_ h406_ g407_) dL_law_1252 rfl (Nat.le_of_ble_eq_true rfl) rfl rfl (Nat.le_of_ble_eq_true rfl) ?_
  refine r_icmp_eq (tgt := 1486) K dL_law_1255 (by decide) (fun c408_ => ?_) (fun c408_ => ?_)
  · have hf := e_t hf c408_
    refine r_lv [0, 1, 2, 3] rfl ?_
    exact sL_law_1486 K Z xs L XO Q18 hQ18 x3 h406_ hf
  · have hf := e_f hf c408_
    refine r_iconst (v := 0) K dL_law_1258 rfl ?_
    exact r_lawret K Z dL_law_1259 hf
def fL_law_1260 (xs : Nat → Int32) (L : Nat) (Q18 : Int32 → AH → Option (Int32 × AH)) (x3 : Int32) (h : AH) : Option (Int32 × AH) :=
  if inb (x3 + 1) L = true then if inb (x3 + 2) L = true then if inb (x3 + 3) L = true then if inb (x3 + 4) L = true then bind2 (fX9_put (xs (ix (x3 + 1))) (xs (ix (x3 + 2))) (((((xs (ix (x3 + 3))) : Int32).toInt64) <<< ((32 : Int32).toInt64 &&& 63)) ||| ((((xs (ix (x3 + 4))) : Int32).toInt64) &&& 4294967295)) h) fun r414_ h415_ => bind2 (fX10_put (xs (ix (x3 + 1))) (xs (ix (x3 + 2))) (((((xs (ix (x3 + 3))) : Int32).toInt64) <<< ((32 : Int32).toInt64 &&& 63)) ||| ((((xs (ix (x3 + 4))) : Int32).toInt64) &&& 4294967295)) h415_) fun r421_ h422_ => if r414_ = r421_ then fL_law_1486 xs L Q18 x3 h422_ else some (0, h422_) else none else none else none else none
set_option maxRecDepth 10000 in
theorem sL_law_1260 {G : GG} {E : EE} {h' : AH} (K : OK G E 99 RL cL_law 4) (Z : RTL G E) (xs : Nat → Int32) (L : Nat) (XO : XOK G E L xs) (Q18 : Int32 → AH → Option (Int32 × AH)) (hQ18 : ∀ (x3 : Int32) (h : AH), Q18 x3 h = some (1, h') → JJ G E 4 18 [(0, .ref 300), (1, .ref 0), (2, .ref 59), (3, .int x3)] [] h) (x3 : Int32) (h : AH) (hf : fL_law_1260 xs L Q18 x3 h = some (1, h')) : JJ G E 4 1260 [(0, .ref 300), (1, .ref 0), (2, .ref 59), (3, .int x3)] [] h := by
  unfold fL_law_1260 at hf
  refine r_aload_n K dL_law_1260 1 rfl rfl ?_
  refine r_aload_n K dL_law_1261 0 rfl rfl ?_
  refine r_iload_n K dL_law_1262 3 rfl rfl ?_
  refine r_iconst (v := 1) K dL_law_1263 rfl ?_
  refine r_iadd K dL_law_1264 ?_
  obtain ⟨g410_, hf⟩ := e_g hf
  refine r_xald K XO dL_law_1265 g410_ ?_
  refine r_aload_n K dL_law_1266 0 rfl rfl ?_
  refine r_iload_n K dL_law_1267 3 rfl rfl ?_
  refine r_iconst (v := 2) K dL_law_1268 rfl ?_
  refine r_iadd K dL_law_1269 ?_
  obtain ⟨g411_, hf⟩ := e_g hf
  refine r_xald K XO dL_law_1270 g411_ ?_
  refine r_aload_n K dL_law_1271 0 rfl rfl ?_
  refine r_iload_n K dL_law_1272 3 rfl rfl ?_
  refine r_iconst (v := 3) K dL_law_1273 rfl ?_
  refine r_iadd K dL_law_1274 ?_
  obtain ⟨g412_, hf⟩ := e_g hf
  refine r_xald K XO dL_law_1275 g412_ ?_
  refine r_i2l K dL_law_1276 ?_
  refine r_bipush (v := 32) K dL_law_1277 rfl ?_
  refine r_lshl K dL_law_1279 ?_
  refine r_aload_n K dL_law_1280 0 rfl rfl ?_
  refine r_iload_n K dL_law_1281 3 rfl rfl ?_
  refine r_iconst (v := 4) K dL_law_1282 rfl ?_
  refine r_iadd K dL_law_1283 ?_
  obtain ⟨g413_, hf⟩ := e_g hf
  refine r_xald K XO dL_law_1284 g413_ ?_
  refine r_i2l K dL_law_1285 ?_
  refine r_ldc2 (v := 4294967295) K dL_law_1286 lcL_161 ?_
  refine r_land K dL_law_1289 ?_
  refine r_lor K dL_law_1290 ?_
  obtain ⟨r414_, h415_, g416_, hf⟩ := e_2 hf
  refine r_callV (av := [.int (xs (ix (x3 + 1))), .int (xs (ix (x3 + 2))), .long (((((xs (ix (x3 + 3))) : Int32).toInt64) <<< ((32 : Int32).toInt64 &&& 63)) ||| ((((xs (ix (x3 + 4))) : Int32).toInt64) &&& 4294967295))]) (st := []) K lkL_163 mwX9_put (conX9_put (xs (ix (x3 + 1))) (xs (ix (x3 + 2))) (((((xs (ix (x3 + 3))) : Int32).toInt64) <<< ((32 : Int32).toInt64 &&& 63)) ||| ((((xs (ix (x3 + 4))) : Int32).toInt64) &&& 4294967295)) h r414_ h415_ g416_) dL_law_1291 rfl (Nat.le_of_ble_eq_true rfl) rfl rfl (Nat.le_of_ble_eq_true rfl) ?_
  refine r_aload_n K dL_law_1294 2 rfl rfl ?_
  refine r_aload_n K dL_law_1295 0 rfl rfl ?_
  refine r_iload_n K dL_law_1296 3 rfl rfl ?_
  refine r_iconst (v := 1) K dL_law_1297 rfl ?_
  refine r_iadd K dL_law_1298 ?_
  refine r_xald K XO dL_law_1299 g410_ ?_
  refine r_aload_n K dL_law_1300 0 rfl rfl ?_
  refine r_iload_n K dL_law_1301 3 rfl rfl ?_
  refine r_iconst (v := 2) K dL_law_1302 rfl ?_
  refine r_iadd K dL_law_1303 ?_
  refine r_xald K XO dL_law_1304 g411_ ?_
  refine r_aload_n K dL_law_1305 0 rfl rfl ?_
  refine r_iload_n K dL_law_1306 3 rfl rfl ?_
  refine r_iconst (v := 3) K dL_law_1307 rfl ?_
  refine r_iadd K dL_law_1308 ?_
  refine r_xald K XO dL_law_1309 g412_ ?_
  refine r_i2l K dL_law_1310 ?_
  refine r_bipush (v := 32) K dL_law_1311 rfl ?_
  refine r_lshl K dL_law_1313 ?_
  refine r_aload_n K dL_law_1314 0 rfl rfl ?_
  refine r_iload_n K dL_law_1315 3 rfl rfl ?_
  refine r_iconst (v := 4) K dL_law_1316 rfl ?_
  refine r_iadd K dL_law_1317 ?_
  refine r_xald K XO dL_law_1318 g413_ ?_
  refine r_i2l K dL_law_1319 ?_
  refine r_ldc2 (v := 4294967295) K dL_law_1320 lcL_161 ?_
  refine r_land K dL_law_1323 ?_
  refine r_lor K dL_law_1324 ?_
  obtain ⟨r421_, h422_, g423_, hf⟩ := e_2 hf
  refine r_callV (av := [.int (xs (ix (x3 + 1))), .int (xs (ix (x3 + 2))), .long (((((xs (ix (x3 + 3))) : Int32).toInt64) <<< ((32 : Int32).toInt64 &&& 63)) ||| ((((xs (ix (x3 + 4))) : Int32).toInt64) &&& 4294967295))]) (st := [.int r414_]) K lkL_167 mwX10_put (conX10_put (xs (ix (x3 + 1))) (xs (ix (x3 + 2))) (((((xs (ix (x3 + 3))) : Int32).toInt64) <<< ((32 : Int32).toInt64 &&& 63)) ||| ((((xs (ix (x3 + 4))) : Int32).toInt64) &&& 4294967295)) h415_ r421_ h422_ g423_) dL_law_1325 rfl (Nat.le_of_ble_eq_true rfl) rfl rfl (Nat.le_of_ble_eq_true rfl) ?_
  refine r_icmp_eq (tgt := 1486) K dL_law_1328 (by decide) (fun c424_ => ?_) (fun c424_ => ?_)
  · have hf := e_t hf c424_
    refine r_lv [0, 1, 2, 3] rfl ?_
    exact sL_law_1486 K Z xs L XO Q18 hQ18 x3 h422_ hf
  · have hf := e_f hf c424_
    refine r_iconst (v := 0) K dL_law_1331 rfl ?_
    exact r_lawret K Z dL_law_1332 hf
def fL_law_1333 (xs : Nat → Int32) (L : Nat) (Q18 : Int32 → AH → Option (Int32 × AH)) (x3 : Int32) (h : AH) : Option (Int32 × AH) :=
  if inb (x3 + 1) L = true then if inb (x3 + 2) L = true then bind2 (fX9_element (xs (ix (x3 + 1))) (xs (ix (x3 + 2))) h) fun r428_ h429_ => bind2 (fX10_element (xs (ix (x3 + 1))) (xs (ix (x3 + 2))) h429_) fun r433_ h434_ => if (lg_cmp r428_ r433_) = 0 then fL_law_1486 xs L Q18 x3 h434_ else some (0, h434_) else none else none
set_option maxRecDepth 10000 in
theorem sL_law_1333 {G : GG} {E : EE} {h' : AH} (K : OK G E 99 RL cL_law 4) (Z : RTL G E) (xs : Nat → Int32) (L : Nat) (XO : XOK G E L xs) (Q18 : Int32 → AH → Option (Int32 × AH)) (hQ18 : ∀ (x3 : Int32) (h : AH), Q18 x3 h = some (1, h') → JJ G E 4 18 [(0, .ref 300), (1, .ref 0), (2, .ref 59), (3, .int x3)] [] h) (x3 : Int32) (h : AH) (hf : fL_law_1333 xs L Q18 x3 h = some (1, h')) : JJ G E 4 1333 [(0, .ref 300), (1, .ref 0), (2, .ref 59), (3, .int x3)] [] h := by
  unfold fL_law_1333 at hf
  refine r_aload_n K dL_law_1333 1 rfl rfl ?_
  refine r_aload_n K dL_law_1334 0 rfl rfl ?_
  refine r_iload_n K dL_law_1335 3 rfl rfl ?_
  refine r_iconst (v := 1) K dL_law_1336 rfl ?_
  refine r_iadd K dL_law_1337 ?_
  obtain ⟨g426_, hf⟩ := e_g hf
  refine r_xald K XO dL_law_1338 g426_ ?_
  refine r_aload_n K dL_law_1339 0 rfl rfl ?_
  refine r_iload_n K dL_law_1340 3 rfl rfl ?_
  refine r_iconst (v := 2) K dL_law_1341 rfl ?_
  refine r_iadd K dL_law_1342 ?_
  obtain ⟨g427_, hf⟩ := e_g hf
  refine r_xald K XO dL_law_1343 g427_ ?_
  obtain ⟨r428_, h429_, g430_, hf⟩ := e_2 hf
  refine r_callV (av := [.int (xs (ix (x3 + 1))), .int (xs (ix (x3 + 2)))]) (st := []) K lkL_168 mwX9_element (conX9_element (xs (ix (x3 + 1))) (xs (ix (x3 + 2))) h r428_ h429_ g430_) dL_law_1344 rfl (Nat.le_of_ble_eq_true rfl) rfl rfl (Nat.le_of_ble_eq_true rfl) ?_
  refine r_aload_n K dL_law_1347 2 rfl rfl ?_
  refine r_aload_n K dL_law_1348 0 rfl rfl ?_
  refine r_iload_n K dL_law_1349 3 rfl rfl ?_
  refine r_iconst (v := 1) K dL_law_1350 rfl ?_
  refine r_iadd K dL_law_1351 ?_
  refine r_xald K XO dL_law_1352 g426_ ?_
  refine r_aload_n K dL_law_1353 0 rfl rfl ?_
  refine r_iload_n K dL_law_1354 3 rfl rfl ?_
  refine r_iconst (v := 2) K dL_law_1355 rfl ?_
  refine r_iadd K dL_law_1356 ?_
  refine r_xald K XO dL_law_1357 g427_ ?_
  obtain ⟨r433_, h434_, g435_, hf⟩ := e_2 hf
  refine r_callV (av := [.int (xs (ix (x3 + 1))), .int (xs (ix (x3 + 2)))]) (st := [.long r428_]) K lkL_172 mwX10_element (conX10_element (xs (ix (x3 + 1))) (xs (ix (x3 + 2))) h429_ r433_ h434_ g435_) dL_law_1358 rfl (Nat.le_of_ble_eq_true rfl) rfl rfl (Nat.le_of_ble_eq_true rfl) ?_
  refine r_lcmp K dL_law_1361 ?_
  refine r_if_eq (tgt := 1486) K dL_law_1362 (by decide) (fun c436_ => ?_) (fun c436_ => ?_)
  · have hf := e_t hf c436_
    refine r_lv [0, 1, 2, 3] rfl ?_
    exact sL_law_1486 K Z xs L XO Q18 hQ18 x3 h434_ hf
  · have hf := e_f hf c436_
    refine r_iconst (v := 0) K dL_law_1365 rfl ?_
    exact r_lawret K Z dL_law_1366 hf
def fL_law_1367 (xs : Nat → Int32) (L : Nat) (Q18 : Int32 → AH → Option (Int32 × AH)) (x3 : Int32) (h : AH) : Option (Int32 × AH) :=
  if inb (x3 + 1) L = true then if inb (x3 + 2) L = true then if inb (x3 + 3) L = true then if inb (x3 + 4) L = true then if inb (x3 + 5) L = true then bind2 (fX9_shift (xs (ix (x3 + 1))) (xs (ix (x3 + 2))) (xs (ix (x3 + 3))) (xs (ix (x3 + 4))) (xs (ix (x3 + 5))) h) fun r443_ h444_ => bind2 (fX10_shift (xs (ix (x3 + 1))) (xs (ix (x3 + 2))) (xs (ix (x3 + 3))) (xs (ix (x3 + 4))) (xs (ix (x3 + 5))) h444_) fun r451_ h452_ => if r443_ = r451_ then fL_law_1486 xs L Q18 x3 h452_ else some (0, h452_) else none else none else none else none else none
set_option maxRecDepth 10000 in
theorem sL_law_1367 {G : GG} {E : EE} {h' : AH} (K : OK G E 99 RL cL_law 4) (Z : RTL G E) (xs : Nat → Int32) (L : Nat) (XO : XOK G E L xs) (Q18 : Int32 → AH → Option (Int32 × AH)) (hQ18 : ∀ (x3 : Int32) (h : AH), Q18 x3 h = some (1, h') → JJ G E 4 18 [(0, .ref 300), (1, .ref 0), (2, .ref 59), (3, .int x3)] [] h) (x3 : Int32) (h : AH) (hf : fL_law_1367 xs L Q18 x3 h = some (1, h')) : JJ G E 4 1367 [(0, .ref 300), (1, .ref 0), (2, .ref 59), (3, .int x3)] [] h := by
  unfold fL_law_1367 at hf
  refine r_aload_n K dL_law_1367 1 rfl rfl ?_
  refine r_aload_n K dL_law_1368 0 rfl rfl ?_
  refine r_iload_n K dL_law_1369 3 rfl rfl ?_
  refine r_iconst (v := 1) K dL_law_1370 rfl ?_
  refine r_iadd K dL_law_1371 ?_
  obtain ⟨g438_, hf⟩ := e_g hf
  refine r_xald K XO dL_law_1372 g438_ ?_
  refine r_aload_n K dL_law_1373 0 rfl rfl ?_
  refine r_iload_n K dL_law_1374 3 rfl rfl ?_
  refine r_iconst (v := 2) K dL_law_1375 rfl ?_
  refine r_iadd K dL_law_1376 ?_
  obtain ⟨g439_, hf⟩ := e_g hf
  refine r_xald K XO dL_law_1377 g439_ ?_
  refine r_aload_n K dL_law_1378 0 rfl rfl ?_
  refine r_iload_n K dL_law_1379 3 rfl rfl ?_
  refine r_iconst (v := 3) K dL_law_1380 rfl ?_
  refine r_iadd K dL_law_1381 ?_
  obtain ⟨g440_, hf⟩ := e_g hf
  refine r_xald K XO dL_law_1382 g440_ ?_
  refine r_aload_n K dL_law_1383 0 rfl rfl ?_
  refine r_iload_n K dL_law_1384 3 rfl rfl ?_
  refine r_iconst (v := 4) K dL_law_1385 rfl ?_
  refine r_iadd K dL_law_1386 ?_
  obtain ⟨g441_, hf⟩ := e_g hf
  refine r_xald K XO dL_law_1387 g441_ ?_
  refine r_aload_n K dL_law_1388 0 rfl rfl ?_
  refine r_iload_n K dL_law_1389 3 rfl rfl ?_
  refine r_iconst (v := 5) K dL_law_1390 rfl ?_
  refine r_iadd K dL_law_1391 ?_
  obtain ⟨g442_, hf⟩ := e_g hf
  refine r_xald K XO dL_law_1392 g442_ ?_
  obtain ⟨r443_, h444_, g445_, hf⟩ := e_2 hf
  refine r_callV (av := [.int (xs (ix (x3 + 1))), .int (xs (ix (x3 + 2))), .int (xs (ix (x3 + 3))), .int (xs (ix (x3 + 4))), .int (xs (ix (x3 + 5)))]) (st := []) K lkL_173 mwX9_shift (conX9_shift (xs (ix (x3 + 1))) (xs (ix (x3 + 2))) (xs (ix (x3 + 3))) (xs (ix (x3 + 4))) (xs (ix (x3 + 5))) h r443_ h444_ g445_) dL_law_1393 rfl (Nat.le_of_ble_eq_true rfl) rfl rfl (Nat.le_of_ble_eq_true rfl) ?_
  refine r_aload_n K dL_law_1396 2 rfl rfl ?_
  refine r_aload_n K dL_law_1397 0 rfl rfl ?_
  refine r_iload_n K dL_law_1398 3 rfl rfl ?_
  refine r_iconst (v := 1) K dL_law_1399 rfl ?_
  refine r_iadd K dL_law_1400 ?_
  refine r_xald K XO dL_law_1401 g438_ ?_
  refine r_aload_n K dL_law_1402 0 rfl rfl ?_
  refine r_iload_n K dL_law_1403 3 rfl rfl ?_
  refine r_iconst (v := 2) K dL_law_1404 rfl ?_
  refine r_iadd K dL_law_1405 ?_
  refine r_xald K XO dL_law_1406 g439_ ?_
  refine r_aload_n K dL_law_1407 0 rfl rfl ?_
  refine r_iload_n K dL_law_1408 3 rfl rfl ?_
  refine r_iconst (v := 3) K dL_law_1409 rfl ?_
  refine r_iadd K dL_law_1410 ?_
  refine r_xald K XO dL_law_1411 g440_ ?_
  refine r_aload_n K dL_law_1412 0 rfl rfl ?_
  refine r_iload_n K dL_law_1413 3 rfl rfl ?_
  refine r_iconst (v := 4) K dL_law_1414 rfl ?_
  refine r_iadd K dL_law_1415 ?_
  refine r_xald K XO dL_law_1416 g441_ ?_
  refine r_aload_n K dL_law_1417 0 rfl rfl ?_
  refine r_iload_n K dL_law_1418 3 rfl rfl ?_
  refine r_iconst (v := 5) K dL_law_1419 rfl ?_
  refine r_iadd K dL_law_1420 ?_
  refine r_xald K XO dL_law_1421 g442_ ?_
  obtain ⟨r451_, h452_, g453_, hf⟩ := e_2 hf
  refine r_callV (av := [.int (xs (ix (x3 + 1))), .int (xs (ix (x3 + 2))), .int (xs (ix (x3 + 3))), .int (xs (ix (x3 + 4))), .int (xs (ix (x3 + 5)))]) (st := [.int r443_]) K lkL_177 mwX10_shift (conX10_shift (xs (ix (x3 + 1))) (xs (ix (x3 + 2))) (xs (ix (x3 + 3))) (xs (ix (x3 + 4))) (xs (ix (x3 + 5))) h444_ r451_ h452_ g453_) dL_law_1422 rfl (Nat.le_of_ble_eq_true rfl) rfl rfl (Nat.le_of_ble_eq_true rfl) ?_
  refine r_icmp_eq (tgt := 1486) K dL_law_1425 (by decide) (fun c454_ => ?_) (fun c454_ => ?_)
  · have hf := e_t hf c454_
    refine r_lv [0, 1, 2, 3] rfl ?_
    exact sL_law_1486 K Z xs L XO Q18 hQ18 x3 h452_ hf
  · have hf := e_f hf c454_
    refine r_iconst (v := 0) K dL_law_1428 rfl ?_
    exact r_lawret K Z dL_law_1429 hf
def fL_law_1430 (xs : Nat → Int32) (L : Nat) (Q18 : Int32 → AH → Option (Int32 × AH)) (x3 : Int32) (h : AH) : Option (Int32 × AH) :=
  if inb (x3 + 1) L = true then if inb (x3 + 2) L = true then bind2 (fX9_taken (xs (ix (x3 + 1))) (xs (ix (x3 + 2))) h) fun r458_ h459_ => bind2 (fX10_taken (xs (ix (x3 + 1))) (xs (ix (x3 + 2))) h459_) fun r463_ h464_ => if r458_ = r463_ then fL_law_1486 xs L Q18 x3 h464_ else some (0, h464_) else none else none
set_option maxRecDepth 10000 in
theorem sL_law_1430 {G : GG} {E : EE} {h' : AH} (K : OK G E 99 RL cL_law 4) (Z : RTL G E) (xs : Nat → Int32) (L : Nat) (XO : XOK G E L xs) (Q18 : Int32 → AH → Option (Int32 × AH)) (hQ18 : ∀ (x3 : Int32) (h : AH), Q18 x3 h = some (1, h') → JJ G E 4 18 [(0, .ref 300), (1, .ref 0), (2, .ref 59), (3, .int x3)] [] h) (x3 : Int32) (h : AH) (hf : fL_law_1430 xs L Q18 x3 h = some (1, h')) : JJ G E 4 1430 [(0, .ref 300), (1, .ref 0), (2, .ref 59), (3, .int x3)] [] h := by
  unfold fL_law_1430 at hf
  refine r_aload_n K dL_law_1430 1 rfl rfl ?_
  refine r_aload_n K dL_law_1431 0 rfl rfl ?_
  refine r_iload_n K dL_law_1432 3 rfl rfl ?_
  refine r_iconst (v := 1) K dL_law_1433 rfl ?_
  refine r_iadd K dL_law_1434 ?_
  obtain ⟨g456_, hf⟩ := e_g hf
  refine r_xald K XO dL_law_1435 g456_ ?_
  refine r_aload_n K dL_law_1436 0 rfl rfl ?_
  refine r_iload_n K dL_law_1437 3 rfl rfl ?_
  refine r_iconst (v := 2) K dL_law_1438 rfl ?_
  refine r_iadd K dL_law_1439 ?_
  obtain ⟨g457_, hf⟩ := e_g hf
  refine r_xald K XO dL_law_1440 g457_ ?_
  obtain ⟨r458_, h459_, g460_, hf⟩ := e_2 hf
  refine r_callV (av := [.int (xs (ix (x3 + 1))), .int (xs (ix (x3 + 2)))]) (st := []) K lkL_178 mwX9_taken (conX9_taken (xs (ix (x3 + 1))) (xs (ix (x3 + 2))) h r458_ h459_ g460_) dL_law_1441 rfl (Nat.le_of_ble_eq_true rfl) rfl rfl (Nat.le_of_ble_eq_true rfl) ?_
  refine r_aload_n K dL_law_1444 2 rfl rfl ?_
  refine r_aload_n K dL_law_1445 0 rfl rfl ?_
  refine r_iload_n K dL_law_1446 3 rfl rfl ?_
  refine r_iconst (v := 1) K dL_law_1447 rfl ?_
  refine r_iadd K dL_law_1448 ?_
  refine r_xald K XO dL_law_1449 g456_ ?_
  refine r_aload_n K dL_law_1450 0 rfl rfl ?_
  refine r_iload_n K dL_law_1451 3 rfl rfl ?_
  refine r_iconst (v := 2) K dL_law_1452 rfl ?_
  refine r_iadd K dL_law_1453 ?_
  refine r_xald K XO dL_law_1454 g457_ ?_
  obtain ⟨r463_, h464_, g465_, hf⟩ := e_2 hf
  refine r_callV (av := [.int (xs (ix (x3 + 1))), .int (xs (ix (x3 + 2)))]) (st := [.int r458_]) K lkL_181 mwX10_taken (conX10_taken (xs (ix (x3 + 1))) (xs (ix (x3 + 2))) h459_ r463_ h464_ g465_) dL_law_1455 rfl (Nat.le_of_ble_eq_true rfl) rfl rfl (Nat.le_of_ble_eq_true rfl) ?_
  refine r_icmp_eq (tgt := 1486) K dL_law_1458 (by decide) (fun c466_ => ?_) (fun c466_ => ?_)
  · have hf := e_t hf c466_
    refine r_lv [0, 1, 2, 3] rfl ?_
    exact sL_law_1486 K Z xs L XO Q18 hQ18 x3 h464_ hf
  · have hf := e_f hf c466_
    refine r_iconst (v := 0) K dL_law_1461 rfl ?_
    exact r_lawret K Z dL_law_1462 hf
def fL_law_1463 (xs : Nat → Int32) (L : Nat) (Q18 : Int32 → AH → Option (Int32 × AH)) (x3 : Int32) (h : AH) : Option (Int32 × AH) :=
  if inb (x3 + 1) L = true then bind2 (fX9_count (xs (ix (x3 + 1))) h) fun r469_ h470_ => bind2 (fX10_count (xs (ix (x3 + 1))) h470_) fun r473_ h474_ => if r469_ = r473_ then fL_law_1486 xs L Q18 x3 h474_ else some (0, h474_) else none
set_option maxRecDepth 10000 in
theorem sL_law_1463 {G : GG} {E : EE} {h' : AH} (K : OK G E 99 RL cL_law 4) (Z : RTL G E) (xs : Nat → Int32) (L : Nat) (XO : XOK G E L xs) (Q18 : Int32 → AH → Option (Int32 × AH)) (hQ18 : ∀ (x3 : Int32) (h : AH), Q18 x3 h = some (1, h') → JJ G E 4 18 [(0, .ref 300), (1, .ref 0), (2, .ref 59), (3, .int x3)] [] h) (x3 : Int32) (h : AH) (hf : fL_law_1463 xs L Q18 x3 h = some (1, h')) : JJ G E 4 1463 [(0, .ref 300), (1, .ref 0), (2, .ref 59), (3, .int x3)] [] h := by
  unfold fL_law_1463 at hf
  refine r_aload_n K dL_law_1463 1 rfl rfl ?_
  refine r_aload_n K dL_law_1464 0 rfl rfl ?_
  refine r_iload_n K dL_law_1465 3 rfl rfl ?_
  refine r_iconst (v := 1) K dL_law_1466 rfl ?_
  refine r_iadd K dL_law_1467 ?_
  obtain ⟨g468_, hf⟩ := e_g hf
  refine r_xald K XO dL_law_1468 g468_ ?_
  obtain ⟨r469_, h470_, g471_, hf⟩ := e_2 hf
  refine r_callV (av := [.int (xs (ix (x3 + 1)))]) (st := []) K lkL_182 mwX9_count (conX9_count (xs (ix (x3 + 1))) h r469_ h470_ g471_) dL_law_1469 rfl (Nat.le_of_ble_eq_true rfl) rfl rfl (Nat.le_of_ble_eq_true rfl) ?_
  refine r_aload_n K dL_law_1472 2 rfl rfl ?_
  refine r_aload_n K dL_law_1473 0 rfl rfl ?_
  refine r_iload_n K dL_law_1474 3 rfl rfl ?_
  refine r_iconst (v := 1) K dL_law_1475 rfl ?_
  refine r_iadd K dL_law_1476 ?_
  refine r_xald K XO dL_law_1477 g468_ ?_
  obtain ⟨r473_, h474_, g475_, hf⟩ := e_2 hf
  refine r_callV (av := [.int (xs (ix (x3 + 1)))]) (st := [.int r469_]) K lkL_185 mwX10_count (conX10_count (xs (ix (x3 + 1))) h470_ r473_ h474_ g475_) dL_law_1478 rfl (Nat.le_of_ble_eq_true rfl) rfl rfl (Nat.le_of_ble_eq_true rfl) ?_
  refine r_icmp_eq (tgt := 1486) K dL_law_1481 (by decide) (fun c476_ => ?_) (fun c476_ => ?_)
  · have hf := e_t hf c476_
    refine r_lv [0, 1, 2, 3] rfl ?_
    exact sL_law_1486 K Z xs L XO Q18 hQ18 x3 h474_ hf
  · have hf := e_f hf c476_
    refine r_iconst (v := 0) K dL_law_1484 rfl ?_
    exact r_lawret K Z dL_law_1485 hf
def fL_law_18_b (xs : Nat → Int32) (L : Nat) (Q18 : Int32 → AH → Option (Int32 × AH)) (x3 : Int32) (h : AH) : Option (Int32 × AH) :=
  if ((Int32.ofNat L) - 6) < x3 then some (1, h) else if inb x3 L = true then letV (((xs (ix x3)) &&& 63)) fun x3_ => if x3_ = 0 then fL_law_212 xs L Q18 x3 h else if x3_ = 1 then fL_law_245 xs L Q18 x3 h else if x3_ = 2 then fL_law_288 xs L Q18 x3 h else if x3_ = 3 then fL_law_331 xs L Q18 x3 h else if x3_ = 4 then fL_law_374 xs L Q18 x3 h else if x3_ = 5 then fL_law_407 xs L Q18 x3 h else if x3_ = 6 then fL_law_430 xs L Q18 x3 h else if x3_ = 7 then fL_law_443 xs L Q18 x3 h else if x3_ = 8 then fL_law_486 xs L Q18 x3 h else if x3_ = 9 then fL_law_509 xs L Q18 x3 h else if x3_ = 10 then fL_law_542 xs L Q18 x3 h else if x3_ = 11 then fL_law_575 xs L Q18 x3 h else if x3_ = 12 then fL_law_608 xs L Q18 x3 h else if x3_ = 13 then fL_law_631 xs L Q18 x3 h else if x3_ = 14 then fL_law_664 xs L Q18 x3 h else if x3_ = 15 then fL_law_707 xs L Q18 x3 h else if x3_ = 16 then fL_law_730 xs L Q18 x3 h else if x3_ = 17 then fL_law_753 xs L Q18 x3 h else if x3_ = 18 then fL_law_776 xs L Q18 x3 h else if x3_ = 19 then fL_law_819 xs L Q18 x3 h else if x3_ = 20 then fL_law_842 xs L Q18 x3 h else if x3_ = 21 then fL_law_885 xs L Q18 x3 h else if x3_ = 22 then fL_law_928 xs L Q18 x3 h else if x3_ = 23 then fL_law_961 xs L Q18 x3 h else if x3_ = 24 then fL_law_974 xs L Q18 x3 h else if x3_ = 25 then fL_law_987 xs L Q18 x3 h else if x3_ = 26 then fL_law_1020 xs L Q18 x3 h else if x3_ = 27 then fL_law_1043 xs L Q18 x3 h else if x3_ = 28 then fL_law_1056 xs L Q18 x3 h else if x3_ = 29 then fL_law_1069 xs L Q18 x3 h else if x3_ = 30 then fL_law_1082 xs L Q18 x3 h else if x3_ = 31 then fL_law_1095 xs L Q18 x3 h else if x3_ = 32 then fL_law_1118 xs L Q18 x3 h else if x3_ = 33 then fL_law_1161 xs L Q18 x3 h else if x3_ = 34 then fL_law_1184 xs L Q18 x3 h else if x3_ = 35 then fL_law_1217 xs L Q18 x3 h else if x3_ = 36 then fL_law_1260 xs L Q18 x3 h else if x3_ = 37 then fL_law_1333 xs L Q18 x3 h else if x3_ = 38 then fL_law_1367 xs L Q18 x3 h else if x3_ = 39 then fL_law_1430 xs L Q18 x3 h else if x3_ = 40 then fL_law_1463 xs L Q18 x3 h else fL_law_1486 xs L Q18 x3 h else none
def fL_law_18 (xs : Nat → Int32) (L : Nat) : Nat → Int32 → AH → Option (Int32 × AH)
  | 0 => fun _ _ => none
  | n + 1 => fL_law_18_b xs L (fL_law_18 xs L n)
set_option maxRecDepth 10000 in
theorem sL_law_18_b {G : GG} {E : EE} {h' : AH} (K : OK G E 99 RL cL_law 4) (Z : RTL G E) (xs : Nat → Int32) (L : Nat) (XO : XOK G E L xs) (Q18 : Int32 → AH → Option (Int32 × AH)) (hQ18 : ∀ (x3 : Int32) (h : AH), Q18 x3 h = some (1, h') → JJ G E 4 18 [(0, .ref 300), (1, .ref 0), (2, .ref 59), (3, .int x3)] [] h) (x3 : Int32) (h : AH) (hf : fL_law_18_b xs L Q18 x3 h = some (1, h')) : JJ G E 4 18 [(0, .ref 300), (1, .ref 0), (2, .ref 59), (3, .int x3)] [] h := by
  unfold fL_law_18_b at hf
  refine r_iload_n K dL_law_18 3 rfl rfl ?_
  refine r_aload_n K dL_law_19 0 rfl rfl ?_
  refine r_xlen K XO dL_law_20 ?_
  refine r_bipush (v := 6) K dL_law_21 rfl ?_
  refine r_isub K dL_law_23 ?_
  refine r_icmp_gt (tgt := 1492) K dL_law_24 (by decide) (fun c1_ => ?_) (fun c1_ => ?_)
  · have hf := e_t hf c1_
    refine r_iconst (v := 1) K dL_law_1492 rfl ?_
    exact r_lawret K Z dL_law_1493 hf
  · have hf := e_f hf c1_
    refine r_aload_n K dL_law_27 0 rfl rfl ?_
    refine r_iload_n K dL_law_28 3 rfl rfl ?_
    obtain ⟨g2_, hf⟩ := e_g hf
    refine r_xald K XO dL_law_29 g2_ ?_
    refine r_bipush (v := 63) K dL_law_30 rfl ?_
    refine r_iand K dL_law_32 ?_
    obtain ⟨x3_, e4_, hf⟩ := e_l hf
    refine r_nmI e4_ ?_
    by_cases c5_ : x3_ = 0
    · have hf := e_t hf c5_
      refine r_tblIn (off := 179) (tgt := 212) K dL_law_33 (by rw [c5_]; decide) (by rw [c5_]; decide) (by rw [c5_]; decide) (by decide) ?_
      refine r_lv [0, 1, 2, 3] rfl ?_
      exact sL_law_212 K Z xs L XO Q18 hQ18 x3 h hf
    have hf := e_f hf c5_
    by_cases c17_ : x3_ = 1
    · have hf := e_t hf c17_
      refine r_tblIn (off := 212) (tgt := 245) K dL_law_33 (by rw [c17_]; decide) (by rw [c17_]; decide) (by rw [c17_]; decide) (by decide) ?_
      refine r_lv [0, 1, 2, 3] rfl ?_
      exact sL_law_245 K Z xs L XO Q18 hQ18 x3 h hf
    have hf := e_f hf c17_
    by_cases c31_ : x3_ = 2
    · have hf := e_t hf c31_
      refine r_tblIn (off := 255) (tgt := 288) K dL_law_33 (by rw [c31_]; decide) (by rw [c31_]; decide) (by rw [c31_]; decide) (by decide) ?_
      refine r_lv [0, 1, 2, 3] rfl ?_
      exact sL_law_288 K Z xs L XO Q18 hQ18 x3 h hf
    have hf := e_f hf c31_
    by_cases c45_ : x3_ = 3
    · have hf := e_t hf c45_
      refine r_tblIn (off := 298) (tgt := 331) K dL_law_33 (by rw [c45_]; decide) (by rw [c45_]; decide) (by rw [c45_]; decide) (by decide) ?_
      refine r_lv [0, 1, 2, 3] rfl ?_
      exact sL_law_331 K Z xs L XO Q18 hQ18 x3 h hf
    have hf := e_f hf c45_
    by_cases c59_ : x3_ = 4
    · have hf := e_t hf c59_
      refine r_tblIn (off := 341) (tgt := 374) K dL_law_33 (by rw [c59_]; decide) (by rw [c59_]; decide) (by rw [c59_]; decide) (by decide) ?_
      refine r_lv [0, 1, 2, 3] rfl ?_
      exact sL_law_374 K Z xs L XO Q18 hQ18 x3 h hf
    have hf := e_f hf c59_
    by_cases c71_ : x3_ = 5
    · have hf := e_t hf c71_
      refine r_tblIn (off := 374) (tgt := 407) K dL_law_33 (by rw [c71_]; decide) (by rw [c71_]; decide) (by rw [c71_]; decide) (by decide) ?_
      refine r_lv [0, 1, 2, 3] rfl ?_
      exact sL_law_407 K Z xs L XO Q18 hQ18 x3 h hf
    have hf := e_f hf c71_
    by_cases c81_ : x3_ = 6
    · have hf := e_t hf c81_
      refine r_tblIn (off := 397) (tgt := 430) K dL_law_33 (by rw [c81_]; decide) (by rw [c81_]; decide) (by rw [c81_]; decide) (by decide) ?_
      refine r_lv [0, 1, 2, 3] rfl ?_
      exact sL_law_430 K Z xs L XO Q18 hQ18 x3 h hf
    have hf := e_f hf c81_
    by_cases c89_ : x3_ = 7
    · have hf := e_t hf c89_
      refine r_tblIn (off := 410) (tgt := 443) K dL_law_33 (by rw [c89_]; decide) (by rw [c89_]; decide) (by rw [c89_]; decide) (by decide) ?_
      refine r_lv [0, 1, 2, 3] rfl ?_
      exact sL_law_443 K Z xs L XO Q18 hQ18 x3 h hf
    have hf := e_f hf c89_
    by_cases c103_ : x3_ = 8
    · have hf := e_t hf c103_
      refine r_tblIn (off := 453) (tgt := 486) K dL_law_33 (by rw [c103_]; decide) (by rw [c103_]; decide) (by rw [c103_]; decide) (by decide) ?_
      refine r_lv [0, 1, 2, 3] rfl ?_
      exact sL_law_486 K Z xs L XO Q18 hQ18 x3 h hf
    have hf := e_f hf c103_
    by_cases c113_ : x3_ = 9
    · have hf := e_t hf c113_
      refine r_tblIn (off := 476) (tgt := 509) K dL_law_33 (by rw [c113_]; decide) (by rw [c113_]; decide) (by rw [c113_]; decide) (by decide) ?_
      refine r_lv [0, 1, 2, 3] rfl ?_
      exact sL_law_509 K Z xs L XO Q18 hQ18 x3 h hf
    have hf := e_f hf c113_
    by_cases c125_ : x3_ = 10
    · have hf := e_t hf c125_
      refine r_tblIn (off := 509) (tgt := 542) K dL_law_33 (by rw [c125_]; decide) (by rw [c125_]; decide) (by rw [c125_]; decide) (by decide) ?_
      refine r_lv [0, 1, 2, 3] rfl ?_
      exact sL_law_542 K Z xs L XO Q18 hQ18 x3 h hf
    have hf := e_f hf c125_
    by_cases c137_ : x3_ = 11
    · have hf := e_t hf c137_
      refine r_tblIn (off := 542) (tgt := 575) K dL_law_33 (by rw [c137_]; decide) (by rw [c137_]; decide) (by rw [c137_]; decide) (by decide) ?_
      refine r_lv [0, 1, 2, 3] rfl ?_
      exact sL_law_575 K Z xs L XO Q18 hQ18 x3 h hf
    have hf := e_f hf c137_
    by_cases c149_ : x3_ = 12
    · have hf := e_t hf c149_
      refine r_tblIn (off := 575) (tgt := 608) K dL_law_33 (by rw [c149_]; decide) (by rw [c149_]; decide) (by rw [c149_]; decide) (by decide) ?_
      refine r_lv [0, 1, 2, 3] rfl ?_
      exact sL_law_608 K Z xs L XO Q18 hQ18 x3 h hf
    have hf := e_f hf c149_
    by_cases c159_ : x3_ = 13
    · have hf := e_t hf c159_
      refine r_tblIn (off := 598) (tgt := 631) K dL_law_33 (by rw [c159_]; decide) (by rw [c159_]; decide) (by rw [c159_]; decide) (by decide) ?_
      refine r_lv [0, 1, 2, 3] rfl ?_
      exact sL_law_631 K Z xs L XO Q18 hQ18 x3 h hf
    have hf := e_f hf c159_
    by_cases c171_ : x3_ = 14
    · have hf := e_t hf c171_
      refine r_tblIn (off := 631) (tgt := 664) K dL_law_33 (by rw [c171_]; decide) (by rw [c171_]; decide) (by rw [c171_]; decide) (by decide) ?_
      refine r_lv [0, 1, 2, 3] rfl ?_
      exact sL_law_664 K Z xs L XO Q18 hQ18 x3 h hf
    have hf := e_f hf c171_
    by_cases c185_ : x3_ = 15
    · have hf := e_t hf c185_
      refine r_tblIn (off := 674) (tgt := 707) K dL_law_33 (by rw [c185_]; decide) (by rw [c185_]; decide) (by rw [c185_]; decide) (by decide) ?_
      refine r_lv [0, 1, 2, 3] rfl ?_
      exact sL_law_707 K Z xs L XO Q18 hQ18 x3 h hf
    have hf := e_f hf c185_
    by_cases c195_ : x3_ = 16
    · have hf := e_t hf c195_
      refine r_tblIn (off := 697) (tgt := 730) K dL_law_33 (by rw [c195_]; decide) (by rw [c195_]; decide) (by rw [c195_]; decide) (by decide) ?_
      refine r_lv [0, 1, 2, 3] rfl ?_
      exact sL_law_730 K Z xs L XO Q18 hQ18 x3 h hf
    have hf := e_f hf c195_
    by_cases c205_ : x3_ = 17
    · have hf := e_t hf c205_
      refine r_tblIn (off := 720) (tgt := 753) K dL_law_33 (by rw [c205_]; decide) (by rw [c205_]; decide) (by rw [c205_]; decide) (by decide) ?_
      refine r_lv [0, 1, 2, 3] rfl ?_
      exact sL_law_753 K Z xs L XO Q18 hQ18 x3 h hf
    have hf := e_f hf c205_
    by_cases c215_ : x3_ = 18
    · have hf := e_t hf c215_
      refine r_tblIn (off := 743) (tgt := 776) K dL_law_33 (by rw [c215_]; decide) (by rw [c215_]; decide) (by rw [c215_]; decide) (by decide) ?_
      refine r_lv [0, 1, 2, 3] rfl ?_
      exact sL_law_776 K Z xs L XO Q18 hQ18 x3 h hf
    have hf := e_f hf c215_
    by_cases c229_ : x3_ = 19
    · have hf := e_t hf c229_
      refine r_tblIn (off := 786) (tgt := 819) K dL_law_33 (by rw [c229_]; decide) (by rw [c229_]; decide) (by rw [c229_]; decide) (by decide) ?_
      refine r_lv [0, 1, 2, 3] rfl ?_
      exact sL_law_819 K Z xs L XO Q18 hQ18 x3 h hf
    have hf := e_f hf c229_
    by_cases c239_ : x3_ = 20
    · have hf := e_t hf c239_
      refine r_tblIn (off := 809) (tgt := 842) K dL_law_33 (by rw [c239_]; decide) (by rw [c239_]; decide) (by rw [c239_]; decide) (by decide) ?_
      refine r_lv [0, 1, 2, 3] rfl ?_
      exact sL_law_842 K Z xs L XO Q18 hQ18 x3 h hf
    have hf := e_f hf c239_
    by_cases c253_ : x3_ = 21
    · have hf := e_t hf c253_
      refine r_tblIn (off := 852) (tgt := 885) K dL_law_33 (by rw [c253_]; decide) (by rw [c253_]; decide) (by rw [c253_]; decide) (by decide) ?_
      refine r_lv [0, 1, 2, 3] rfl ?_
      exact sL_law_885 K Z xs L XO Q18 hQ18 x3 h hf
    have hf := e_f hf c253_
    by_cases c267_ : x3_ = 22
    · have hf := e_t hf c267_
      refine r_tblIn (off := 895) (tgt := 928) K dL_law_33 (by rw [c267_]; decide) (by rw [c267_]; decide) (by rw [c267_]; decide) (by decide) ?_
      refine r_lv [0, 1, 2, 3] rfl ?_
      exact sL_law_928 K Z xs L XO Q18 hQ18 x3 h hf
    have hf := e_f hf c267_
    by_cases c279_ : x3_ = 23
    · have hf := e_t hf c279_
      refine r_tblIn (off := 928) (tgt := 961) K dL_law_33 (by rw [c279_]; decide) (by rw [c279_]; decide) (by rw [c279_]; decide) (by decide) ?_
      refine r_lv [0, 1, 2, 3] rfl ?_
      exact sL_law_961 K Z xs L XO Q18 hQ18 x3 h hf
    have hf := e_f hf c279_
    by_cases c287_ : x3_ = 24
    · have hf := e_t hf c287_
      refine r_tblIn (off := 941) (tgt := 974) K dL_law_33 (by rw [c287_]; decide) (by rw [c287_]; decide) (by rw [c287_]; decide) (by decide) ?_
      refine r_lv [0, 1, 2, 3] rfl ?_
      exact sL_law_974 K Z xs L XO Q18 hQ18 x3 h hf
    have hf := e_f hf c287_
    by_cases c295_ : x3_ = 25
    · have hf := e_t hf c295_
      refine r_tblIn (off := 954) (tgt := 987) K dL_law_33 (by rw [c295_]; decide) (by rw [c295_]; decide) (by rw [c295_]; decide) (by decide) ?_
      refine r_lv [0, 1, 2, 3] rfl ?_
      exact sL_law_987 K Z xs L XO Q18 hQ18 x3 h hf
    have hf := e_f hf c295_
    by_cases c307_ : x3_ = 26
    · have hf := e_t hf c307_
      refine r_tblIn (off := 987) (tgt := 1020) K dL_law_33 (by rw [c307_]; decide) (by rw [c307_]; decide) (by rw [c307_]; decide) (by decide) ?_
      refine r_lv [0, 1, 2, 3] rfl ?_
      exact sL_law_1020 K Z xs L XO Q18 hQ18 x3 h hf
    have hf := e_f hf c307_
    by_cases c317_ : x3_ = 27
    · have hf := e_t hf c317_
      refine r_tblIn (off := 1010) (tgt := 1043) K dL_law_33 (by rw [c317_]; decide) (by rw [c317_]; decide) (by rw [c317_]; decide) (by decide) ?_
      refine r_lv [0, 1, 2, 3] rfl ?_
      exact sL_law_1043 K Z xs L XO Q18 hQ18 x3 h hf
    have hf := e_f hf c317_
    by_cases c325_ : x3_ = 28
    · have hf := e_t hf c325_
      refine r_tblIn (off := 1023) (tgt := 1056) K dL_law_33 (by rw [c325_]; decide) (by rw [c325_]; decide) (by rw [c325_]; decide) (by decide) ?_
      refine r_lv [0, 1, 2, 3] rfl ?_
      exact sL_law_1056 K Z xs L XO Q18 hQ18 x3 h hf
    have hf := e_f hf c325_
    by_cases c333_ : x3_ = 29
    · have hf := e_t hf c333_
      refine r_tblIn (off := 1036) (tgt := 1069) K dL_law_33 (by rw [c333_]; decide) (by rw [c333_]; decide) (by rw [c333_]; decide) (by decide) ?_
      refine r_lv [0, 1, 2, 3] rfl ?_
      exact sL_law_1069 K Z xs L XO Q18 hQ18 x3 h hf
    have hf := e_f hf c333_
    by_cases c341_ : x3_ = 30
    · have hf := e_t hf c341_
      refine r_tblIn (off := 1049) (tgt := 1082) K dL_law_33 (by rw [c341_]; decide) (by rw [c341_]; decide) (by rw [c341_]; decide) (by decide) ?_
      refine r_lv [0, 1, 2, 3] rfl ?_
      exact sL_law_1082 K Z xs L XO Q18 hQ18 x3 h hf
    have hf := e_f hf c341_
    by_cases c349_ : x3_ = 31
    · have hf := e_t hf c349_
      refine r_tblIn (off := 1062) (tgt := 1095) K dL_law_33 (by rw [c349_]; decide) (by rw [c349_]; decide) (by rw [c349_]; decide) (by decide) ?_
      refine r_lv [0, 1, 2, 3] rfl ?_
      exact sL_law_1095 K Z xs L XO Q18 hQ18 x3 h hf
    have hf := e_f hf c349_
    by_cases c359_ : x3_ = 32
    · have hf := e_t hf c359_
      refine r_tblIn (off := 1085) (tgt := 1118) K dL_law_33 (by rw [c359_]; decide) (by rw [c359_]; decide) (by rw [c359_]; decide) (by decide) ?_
      refine r_lv [0, 1, 2, 3] rfl ?_
      exact sL_law_1118 K Z xs L XO Q18 hQ18 x3 h hf
    have hf := e_f hf c359_
    by_cases c373_ : x3_ = 33
    · have hf := e_t hf c373_
      refine r_tblIn (off := 1128) (tgt := 1161) K dL_law_33 (by rw [c373_]; decide) (by rw [c373_]; decide) (by rw [c373_]; decide) (by decide) ?_
      refine r_lv [0, 1, 2, 3] rfl ?_
      exact sL_law_1161 K Z xs L XO Q18 hQ18 x3 h hf
    have hf := e_f hf c373_
    by_cases c383_ : x3_ = 34
    · have hf := e_t hf c383_
      refine r_tblIn (off := 1151) (tgt := 1184) K dL_law_33 (by rw [c383_]; decide) (by rw [c383_]; decide) (by rw [c383_]; decide) (by decide) ?_
      refine r_lv [0, 1, 2, 3] rfl ?_
      exact sL_law_1184 K Z xs L XO Q18 hQ18 x3 h hf
    have hf := e_f hf c383_
    by_cases c395_ : x3_ = 35
    · have hf := e_t hf c395_
      refine r_tblIn (off := 1184) (tgt := 1217) K dL_law_33 (by rw [c395_]; decide) (by rw [c395_]; decide) (by rw [c395_]; decide) (by decide) ?_
      refine r_lv [0, 1, 2, 3] rfl ?_
      exact sL_law_1217 K Z xs L XO Q18 hQ18 x3 h hf
    have hf := e_f hf c395_
    by_cases c409_ : x3_ = 36
    · have hf := e_t hf c409_
      refine r_tblIn (off := 1227) (tgt := 1260) K dL_law_33 (by rw [c409_]; decide) (by rw [c409_]; decide) (by rw [c409_]; decide) (by decide) ?_
      refine r_lv [0, 1, 2, 3] rfl ?_
      exact sL_law_1260 K Z xs L XO Q18 hQ18 x3 h hf
    have hf := e_f hf c409_
    by_cases c425_ : x3_ = 37
    · have hf := e_t hf c425_
      refine r_tblIn (off := 1300) (tgt := 1333) K dL_law_33 (by rw [c425_]; decide) (by rw [c425_]; decide) (by rw [c425_]; decide) (by decide) ?_
      refine r_lv [0, 1, 2, 3] rfl ?_
      exact sL_law_1333 K Z xs L XO Q18 hQ18 x3 h hf
    have hf := e_f hf c425_
    by_cases c437_ : x3_ = 38
    · have hf := e_t hf c437_
      refine r_tblIn (off := 1334) (tgt := 1367) K dL_law_33 (by rw [c437_]; decide) (by rw [c437_]; decide) (by rw [c437_]; decide) (by decide) ?_
      refine r_lv [0, 1, 2, 3] rfl ?_
      exact sL_law_1367 K Z xs L XO Q18 hQ18 x3 h hf
    have hf := e_f hf c437_
    by_cases c455_ : x3_ = 39
    · have hf := e_t hf c455_
      refine r_tblIn (off := 1397) (tgt := 1430) K dL_law_33 (by rw [c455_]; decide) (by rw [c455_]; decide) (by rw [c455_]; decide) (by decide) ?_
      refine r_lv [0, 1, 2, 3] rfl ?_
      exact sL_law_1430 K Z xs L XO Q18 hQ18 x3 h hf
    have hf := e_f hf c455_
    by_cases c467_ : x3_ = 40
    · have hf := e_t hf c467_
      refine r_tblIn (off := 1430) (tgt := 1463) K dL_law_33 (by rw [c467_]; decide) (by rw [c467_]; decide) (by rw [c467_]; decide) (by decide) ?_
      refine r_lv [0, 1, 2, 3] rfl ?_
      exact sL_law_1463 K Z xs L XO Q18 hQ18 x3 h hf
    have hf := e_f hf c467_
    have hout : x3_.toInt < 0 ∨ 40 < x3_.toInt := by
      have zc5_ := lv_neT (a := 0) c5_ (by decide)
      have zc17_ := lv_neT (a := 1) c17_ (by decide)
      have zc31_ := lv_neT (a := 2) c31_ (by decide)
      have zc45_ := lv_neT (a := 3) c45_ (by decide)
      have zc59_ := lv_neT (a := 4) c59_ (by decide)
      have zc71_ := lv_neT (a := 5) c71_ (by decide)
      have zc81_ := lv_neT (a := 6) c81_ (by decide)
      have zc89_ := lv_neT (a := 7) c89_ (by decide)
      have zc103_ := lv_neT (a := 8) c103_ (by decide)
      have zc113_ := lv_neT (a := 9) c113_ (by decide)
      have zc125_ := lv_neT (a := 10) c125_ (by decide)
      have zc137_ := lv_neT (a := 11) c137_ (by decide)
      have zc149_ := lv_neT (a := 12) c149_ (by decide)
      have zc159_ := lv_neT (a := 13) c159_ (by decide)
      have zc171_ := lv_neT (a := 14) c171_ (by decide)
      have zc185_ := lv_neT (a := 15) c185_ (by decide)
      have zc195_ := lv_neT (a := 16) c195_ (by decide)
      have zc205_ := lv_neT (a := 17) c205_ (by decide)
      have zc215_ := lv_neT (a := 18) c215_ (by decide)
      have zc229_ := lv_neT (a := 19) c229_ (by decide)
      have zc239_ := lv_neT (a := 20) c239_ (by decide)
      have zc253_ := lv_neT (a := 21) c253_ (by decide)
      have zc267_ := lv_neT (a := 22) c267_ (by decide)
      have zc279_ := lv_neT (a := 23) c279_ (by decide)
      have zc287_ := lv_neT (a := 24) c287_ (by decide)
      have zc295_ := lv_neT (a := 25) c295_ (by decide)
      have zc307_ := lv_neT (a := 26) c307_ (by decide)
      have zc317_ := lv_neT (a := 27) c317_ (by decide)
      have zc325_ := lv_neT (a := 28) c325_ (by decide)
      have zc333_ := lv_neT (a := 29) c333_ (by decide)
      have zc341_ := lv_neT (a := 30) c341_ (by decide)
      have zc349_ := lv_neT (a := 31) c349_ (by decide)
      have zc359_ := lv_neT (a := 32) c359_ (by decide)
      have zc373_ := lv_neT (a := 33) c373_ (by decide)
      have zc383_ := lv_neT (a := 34) c383_ (by decide)
      have zc395_ := lv_neT (a := 35) c395_ (by decide)
      have zc409_ := lv_neT (a := 36) c409_ (by decide)
      have zc425_ := lv_neT (a := 37) c425_ (by decide)
      have zc437_ := lv_neT (a := 38) c437_ (by decide)
      have zc455_ := lv_neT (a := 39) c455_ (by decide)
      have zc467_ := lv_neT (a := 40) c467_ (by decide)
      omega
    refine r_tblOut (tgt := 1486) K dL_law_33 hout (by decide) ?_
    refine r_lv [0, 1, 2, 3] rfl ?_
    exact sL_law_1486 K Z xs L XO Q18 hQ18 x3 h hf
theorem sL_law_18 {G : GG} {E : EE} {h' : AH} (K : OK G E 99 RL cL_law 4) (Z : RTL G E) (xs : Nat → Int32) (L : Nat) (XO : XOK G E L xs) : ∀ (n : Nat) (x3 : Int32) (h : AH), fL_law_18 xs L n x3 h = some (1, h') → JJ G E 4 18 [(0, .ref 300), (1, .ref 0), (2, .ref 59), (3, .int x3)] [] h := by
  intro n
  induction n with
  | zero => intro x3 h hf; cases hf
  | succ n ih => intro x3 h hf; exact sL_law_18_b K Z xs L XO _ (fun x3 h hf => ih x3 h hf) x3 h hf
