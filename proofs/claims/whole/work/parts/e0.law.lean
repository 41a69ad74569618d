/-! THE LAW -/
section
variable {Z : ZC} {G : GC} {μ : Mu} {pc : Nat} {lv : List (Nat × Value)} {r : List Value} {cc : ByteArray} {nL : Nat} {own : String}
theorem r_xlen {b L : Nat} {xs : Nat → Int32} (hX : va_X b L xs (zs Z) (zs Z).heap) (hbl : b < (zs Z).heap.size) (hbA : ¬ Ab (zw Z) b) (C : CX Z cc nL own) (d : decode cc pc = .ok (.arraylength, 1)) (k : Wm Z G μ (pc + 1) lv (.int (nI L) :: r)) : Wm Z G μ pc lv (.ref b :: r) := fun H locs hH hS ls hl => va_slen C.1 C.2.1 hX hbl hbA hS d (k H locs hH hS ls hl)
theorem r_xld {b L q : Nat} {i : Int32} {xs : Nat → Int32} (hX : va_X b L xs (zs Z) (zs Z).heap) (hbl : b < (zs Z).heap.size) (hbA : ¬ Ab (zw Z) b) (C : CX Z cc nL own) (d : decode cc pc = .ok (.iaload, 1)) (hi : i = nI q) (hq : q < L) (hL : L ≤ 3072) (k : Wm Z G μ (pc + 1) lv (.int (xs q) :: r)) : Wm Z G μ pc lv (.int i :: .ref b :: r) := by
  subst hi
  have e : (nI q).toNatClampNeg = q := nI_clamp (by omega)
  refine fun H locs hH hS ls hl => va_sld C.1 C.2.1 hX hbl hbA hS (nI_in hq (by omega)) d ?_
  rw [e]
  exact k H locs hH hS ls hl
end
theorem INV.mono {k : Nat} {sh : List Sh} {R : Rf} {μ : Mu} (h : INV k sh R μ) : INV (k + 1) sh R μ := by
  obtain ⟨s, t, m, g, hV, hC, hR, hT, hA, hG⟩ := h
  exact ⟨s, t, m, g, hV.mono (by omega), hC, hR, hT, hA, hG.fg (Fg.rfl' (fun _ _ => False) μ) (by omega) (fun _ _ _ q => q)⟩
/-- what holds in the law's loop -/
abbrev LV (Z : ZC) (b q : Nat) : List (Nat × Value) := [(3, .int (nI q)), (2, .ref (wb (zw Z) + 139)), (1, .ref (wb (zw Z) + 0)), (0, .ref b)]
def LW (Z : ZC) (b L : Nat) (xs : Nat → Int32) : Prop := CX Z cL_law 4 RL ∧ zR Z = room_1 ∧ va_X b L xs (zs Z) (zs Z).heap ∧ b < (zs Z).heap.size ∧ ¬ Ab (zw Z) b ∧ L ≤ 3072
def LN (Z : ZC) (b j c s : Nat) : Prop := ∀ c' s' sh' R' μ', c' ≤ c + 19 → s' ≤ s + 1107 → INV (j + 1) sh' R' μ' → LY sh' R' → Wm Z (c', s', sh', R') μ' 1735 (LV Z b (6 * j)) []
theorem cmp_self (v : Int64) : lg_cmp v v = 0 := by unfold lg_cmp; simp
set_option maxRecDepth 100000 in
set_option maxHeartbeats 4000000 in
theorem lc0 {Z : ZC} {b L j c s : Nat} {xs : Nat → Int32} {sh : List Sh} {R : Rf} {μ : Mu} (hW : LW Z b L xs) (hI : INV j sh R μ) (hY : LY sh R) (hq : 6 * j + 6 ≤ L) (hc : c + 19 ≤ 600000) (hs : s + 1107 ≤ 7302250) (kk : LN Z b j c s) : Wm Z (c, s, sh, R) μ 240 (LV Z b (6 * j)) [] := by
  obtain ⟨C, hRm, hX, hbl, hbA, hL⟩ := hW
  have hk : j < 512 := by omega
  have hc : c + 0 ≤ 600000 := by omega
  have hs : s + 0 ≤ 7302250 := by omega
  obtain ⟨r, μ1, μ2, e1, e2, e3⟩ := m_feed (n := 5001) (k := j) (x1 := (xs (6 * j + 1))) (x2 := (xs (6 * j + 2))) (x3 := (xs (6 * j + 3))) (x4 := (xs (6 * j + 4))) (x5 := (xs (6 * j + 5))) hI (by decide)
  refine r_aload_n C dL_law_240 2 rfl ?_
  refine r_aload_n C dL_law_241 3 rfl ?_
  refine r_iload_n C dL_law_242 0 rfl ?_
  refine r_iconst C dL_law_243 ic_1 ?_
  refine r_iadd C dL_law_244 ?_
  refine r_xld (q := 6 * j + 1) hX hbl hbA C dL_law_245 (nI_add (6 * j) 1) (by omega) hL ?_
  refine r_aload_n C dL_law_246 3 rfl ?_
  refine r_iload_n C dL_law_247 0 rfl ?_
  refine r_iconst C dL_law_248 ic_2 ?_
  refine r_iadd C dL_law_249 ?_
  refine r_xld (q := 6 * j + 2) hX hbl hbA C dL_law_250 (nI_add (6 * j) 2) (by omega) hL ?_
  refine r_aload_n C dL_law_251 3 rfl ?_
  refine r_iload_n C dL_law_252 0 rfl ?_
  refine r_iconst C dL_law_253 ic_3 ?_
  refine r_iadd C dL_law_254 ?_
  refine r_xld (q := 6 * j + 3) hX hbl hbA C dL_law_255 (nI_add (6 * j) 3) (by omega) hL ?_
  refine r_aload_n C dL_law_256 3 rfl ?_
  refine r_iload_n C dL_law_257 0 rfl ?_
  refine r_iconst C dL_law_258 ic_4 ?_
  refine r_iadd C dL_law_259 ?_
  refine r_xld (q := 6 * j + 4) hX hbl hbA C dL_law_260 (nI_add (6 * j) 4) (by omega) hL ?_
  refine r_aload_n C dL_law_261 3 rfl ?_
  refine r_iload_n C dL_law_262 0 rfl ?_
  refine r_iconst C dL_law_263 ic_5 ?_
  refine r_iadd C dL_law_264 ?_
  refine r_xld (q := 6 * j + 5) hX hbl hbA C dL_law_265 (nI_add (6 * j) 5) (by omega) hL ?_
  refine r_callV (G := (c, s, sh, R)) (a := 0) (As := [.int (xs (6 * j + 1)), .int (xs (6 * j + 2)), .int (xs (6 * j + 3)), .int (xs (6 * j + 4)), .int (xs (6 * j + 5))]) (rest := []) C mlL_13 dL_law_266 (tX11_feed (l := Z.1.2.1) (w := zw Z) hY 5001 (xs (6 * j + 1)) (xs (6 * j + 2)) (xs (6 * j + 3)) (xs (6 * j + 4)) (xs (6 * j + 5)) e1) rfl rfl (ly0 hY) rfl (by rw [hRm]; exact ⟨nle rfl, nle rfl⟩) (by rw [hRm]; exact ⟨hc, hs⟩) (nle rfl) ?_
  show Wm Z (c, s, sh, R) μ1 269 (LV Z b (6 * j)) [.int r]
  refine r_aload_n C dL_law_269 1 rfl ?_
  refine r_aload_n C dL_law_270 3 rfl ?_
  refine r_iload_n C dL_law_271 0 rfl ?_
  refine r_iconst C dL_law_272 ic_1 ?_
  refine r_iadd C dL_law_273 ?_
  refine r_xld (q := 6 * j + 1) hX hbl hbA C dL_law_274 (nI_add (6 * j) 1) (by omega) hL ?_
  refine r_aload_n C dL_law_275 3 rfl ?_
  refine r_iload_n C dL_law_276 0 rfl ?_
  refine r_iconst C dL_law_277 ic_2 ?_
  refine r_iadd C dL_law_278 ?_
  refine r_xld (q := 6 * j + 2) hX hbl hbA C dL_law_279 (nI_add (6 * j) 2) (by omega) hL ?_
  refine r_aload_n C dL_law_280 3 rfl ?_
  refine r_iload_n C dL_law_281 0 rfl ?_
  refine r_iconst C dL_law_282 ic_3 ?_
  refine r_iadd C dL_law_283 ?_
  refine r_xld (q := 6 * j + 3) hX hbl hbA C dL_law_284 (nI_add (6 * j) 3) (by omega) hL ?_
  refine r_aload_n C dL_law_285 3 rfl ?_
  refine r_iload_n C dL_law_286 0 rfl ?_
  refine r_iconst C dL_law_287 ic_4 ?_
  refine r_iadd C dL_law_288 ?_
  refine r_xld (q := 6 * j + 4) hX hbl hbA C dL_law_289 (nI_add (6 * j) 4) (by omega) hL ?_
  refine r_aload_n C dL_law_290 3 rfl ?_
  refine r_iload_n C dL_law_291 0 rfl ?_
  refine r_iconst C dL_law_292 ic_5 ?_
  refine r_iadd C dL_law_293 ?_
  refine r_xld (q := 6 * j + 5) hX hbl hbA C dL_law_294 (nI_add (6 * j) 5) (by omega) hL ?_
  refine r_callV (G := (c, s, sh, R)) (a := 139) (As := [.int (xs (6 * j + 1)), .int (xs (6 * j + 2)), .int (xs (6 * j + 3)), .int (xs (6 * j + 4)), .int (xs (6 * j + 5))]) (rest := [.int r]) C mlL_17 dL_law_295 (tX12_feed (l := Z.1.2.1) (w := zw Z) hY 5001 (xs (6 * j + 1)) (xs (6 * j + 2)) (xs (6 * j + 3)) (xs (6 * j + 4)) (xs (6 * j + 5)) e2) rfl rfl (ly139 hY) rfl (by rw [hRm]; exact ⟨nle rfl, nle rfl⟩) (by rw [hRm]; exact ⟨hc, hs⟩) (nle rfl) ?_
  show Wm Z (c, s, sh, R) μ2 298 (LV Z b (6 * j)) [.int r, .int r]
  refine r_icmp_eq 1735 C dL_law_298 (by decide) (fun _ => ?_) (fun c => absurd rfl c)
  exact kk _ _ sh R μ2 (by omega) (by omega) e3 hY
set_option maxRecDepth 100000 in
set_option maxHeartbeats 4000000 in
theorem lc1 {Z : ZC} {b L j c s : Nat} {xs : Nat → Int32} {sh : List Sh} {R : Rf} {μ : Mu} (hW : LW Z b L xs) (hI : INV j sh R μ) (hY : LY sh R) (hq : 6 * j + 6 ≤ L) (hc : c + 19 ≤ 600000) (hs : s + 1107 ≤ 7302250) (kk : LN Z b j c s) : Wm Z (c, s, sh, R) μ 303 (LV Z b (6 * j)) [] := by
  obtain ⟨C, hRm, hX, hbl, hbA, hL⟩ := hW
  have hk : j < 512 := by omega
  have hc : c + 0 ≤ 600000 := by omega
  have hs : s + 0 ≤ 7302250 := by omega
  obtain ⟨r, μ1, μ2, e1, e2, e3⟩ := m_sea (n := 5001) (k := j) (x := (xs (6 * j + 1))) hI (by decide)
  refine r_aload_n C dL_law_303 2 rfl ?_
  refine r_aload_n C dL_law_304 3 rfl ?_
  refine r_iload_n C dL_law_305 0 rfl ?_
  refine r_iconst C dL_law_306 ic_1 ?_
  refine r_iadd C dL_law_307 ?_
  refine r_xld (q := 6 * j + 1) hX hbl hbA C dL_law_308 (nI_add (6 * j) 1) (by omega) hL ?_
  refine r_callV (G := (c, s, sh, R)) (a := 0) (As := [.int (xs (6 * j + 1))]) (rest := []) C mlL_18 dL_law_309 (tX11_sea (l := Z.1.2.1) (w := zw Z) hY 5001 (xs (6 * j + 1)) e1) rfl rfl (ly0 hY) rfl (by rw [hRm]; exact ⟨nle rfl, nle rfl⟩) (by rw [hRm]; exact ⟨hc, hs⟩) (nle rfl) ?_
  show Wm Z (c, s, sh, R) μ1 312 (LV Z b (6 * j)) [.int r]
  refine r_aload_n C dL_law_312 1 rfl ?_
  refine r_aload_n C dL_law_313 3 rfl ?_
  refine r_iload_n C dL_law_314 0 rfl ?_
  refine r_iconst C dL_law_315 ic_1 ?_
  refine r_iadd C dL_law_316 ?_
  refine r_xld (q := 6 * j + 1) hX hbl hbA C dL_law_317 (nI_add (6 * j) 1) (by omega) hL ?_
  refine r_callV (G := (c, s, sh, R)) (a := 139) (As := [.int (xs (6 * j + 1))]) (rest := [.int r]) C mlL_22 dL_law_318 (tX12_sea (l := Z.1.2.1) (w := zw Z) hY 5001 (xs (6 * j + 1)) e2) rfl rfl (ly139 hY) rfl (by rw [hRm]; exact ⟨nle rfl, nle rfl⟩) (by rw [hRm]; exact ⟨hc, hs⟩) (nle rfl) ?_
  show Wm Z (c, s, sh, R) μ2 321 (LV Z b (6 * j)) [.int r, .int r]
  refine r_icmp_eq 1735 C dL_law_321 (by decide) (fun _ => ?_) (fun c => absurd rfl c)
  exact kk _ _ sh R μ2 (by omega) (by omega) e3 hY
set_option maxRecDepth 100000 in
set_option maxHeartbeats 4000000 in
theorem lc2 {Z : ZC} {b L j c s : Nat} {xs : Nat → Int32} {sh : List Sh} {R : Rf} {μ : Mu} (hW : LW Z b L xs) (hI : INV j sh R μ) (hY : LY sh R) (hq : 6 * j + 6 ≤ L) (hc : c + 19 ≤ 600000) (hs : s + 1107 ≤ 7302250) (kk : LN Z b j c s) : Wm Z (c, s, sh, R) μ 326 (LV Z b (6 * j)) [] := by
  obtain ⟨C, hRm, hX, hbl, hbA, hL⟩ := hW
  have hk : j < 512 := by omega
  have hc : c + 0 ≤ 600000 := by omega
  have hs : s + 0 ≤ 7302250 := by omega
  obtain ⟨r, μ1, μ2, e1, e2, e3⟩ := m_fault (n := 5001) (k := j) (x := (xs (6 * j + 1))) hI
  obtain ⟨r0, e5, e0⟩ := bnd_inv e1
  obtain ⟨h1, h2⟩ := Prod.mk.inj (Option.some.inj e0)
  subst h1; subst h2
  refine r_aload_n C dL_law_326 2 rfl ?_
  refine r_aload_n C dL_law_327 3 rfl ?_
  refine r_iload_n C dL_law_328 0 rfl ?_
  refine r_iconst C dL_law_329 ic_1 ?_
  refine r_iadd C dL_law_330 ?_
  refine r_xld (q := 6 * j + 1) hX hbl hbA C dL_law_331 (nI_add (6 * j) 1) (by omega) hL ?_
  refine r_callV (G := (c, s, sh, R)) (a := 0) (As := [.int (xs (6 * j + 1))]) (rest := []) C mlL_23 dL_law_332 (tX11_fault (l := Z.1.2.1) (w := zw Z) hY 5001 (xs (6 * j + 1)) e5) rfl rfl (ly0 hY) rfl (by rw [hRm]; exact ⟨nle rfl, nle rfl⟩) (by rw [hRm]; exact ⟨hc, hs⟩) (nle rfl) ?_
  show Wm Z (c, s, sh, R) μ 335 (LV Z b (6 * j)) [.int r0]
  refine r_aload_n C dL_law_335 1 rfl ?_
  refine r_aload_n C dL_law_336 3 rfl ?_
  refine r_iload_n C dL_law_337 0 rfl ?_
  refine r_iconst C dL_law_338 ic_1 ?_
  refine r_iadd C dL_law_339 ?_
  refine r_xld (q := 6 * j + 1) hX hbl hbA C dL_law_340 (nI_add (6 * j) 1) (by omega) hL ?_
  refine r_callV (G := (c, s, sh, R)) (a := 139) (As := [.int (xs (6 * j + 1))]) (rest := [.int r0]) C mlL_26 dL_law_341 (tX12_fault (l := Z.1.2.1) (w := zw Z) hY 5001 (xs (6 * j + 1)) e2) rfl rfl (ly139 hY) rfl (by rw [hRm]; exact ⟨nle rfl, nle rfl⟩) (by rw [hRm]; exact ⟨hc, hs⟩) (nle rfl) ?_
  show Wm Z (c, s, sh, R) μ2 344 (LV Z b (6 * j)) [.int r0, .int r0]
  refine r_icmp_eq 1735 C dL_law_344 (by decide) (fun _ => ?_) (fun c => absurd rfl c)
  exact kk _ _ sh R μ2 (by omega) (by omega) e3 hY
set_option maxRecDepth 100000 in
set_option maxHeartbeats 4000000 in
theorem lc3 {Z : ZC} {b L j c s : Nat} {xs : Nat → Int32} {sh : List Sh} {R : Rf} {μ : Mu} (hW : LW Z b L xs) (hI : INV j sh R μ) (hY : LY sh R) (hq : 6 * j + 6 ≤ L) (hc : c + 19 ≤ 600000) (hs : s + 1107 ≤ 7302250) (kk : LN Z b j c s) : Wm Z (c, s, sh, R) μ 349 (LV Z b (6 * j)) [] := by
  obtain ⟨C, hRm, hX, hbl, hbA, hL⟩ := hW
  have hk : j < 512 := by omega
  have hc : c + 0 ≤ 600000 := by omega
  have hs : s + 0 ≤ 7302250 := by omega
  obtain ⟨r, μ1, μ2, e1, e2, e3⟩ := m_current (n := 5001) (k := j) (x := (xs (6 * j + 1))) (y := (xs (6 * j + 2))) hI hk (by decide)
  refine r_aload_n C dL_law_349 2 rfl ?_
  refine r_aload_n C dL_law_350 3 rfl ?_
  refine r_iload_n C dL_law_351 0 rfl ?_
  refine r_iconst C dL_law_352 ic_1 ?_
  refine r_iadd C dL_law_353 ?_
  refine r_xld (q := 6 * j + 1) hX hbl hbA C dL_law_354 (nI_add (6 * j) 1) (by omega) hL ?_
  refine r_aload_n C dL_law_355 3 rfl ?_
  refine r_iload_n C dL_law_356 0 rfl ?_
  refine r_iconst C dL_law_357 ic_2 ?_
  refine r_iadd C dL_law_358 ?_
  refine r_xld (q := 6 * j + 2) hX hbl hbA C dL_law_359 (nI_add (6 * j) 2) (by omega) hL ?_
  refine r_callV (G := (c, s, sh, R)) (a := 0) (As := [.int (xs (6 * j + 1)), .int (xs (6 * j + 2))]) (rest := []) C mlL_27 dL_law_360 (tX11_current (l := Z.1.2.1) (w := zw Z) hY 5001 (xs (6 * j + 1)) (xs (6 * j + 2)) e1) rfl rfl (ly0 hY) rfl (by rw [hRm]; exact ⟨nle rfl, nle rfl⟩) (by rw [hRm]; exact ⟨hc, hs⟩) (nle rfl) ?_
  show Wm Z (c, s, sh, R) μ1 363 (LV Z b (6 * j)) [.int r]
  refine r_aload_n C dL_law_363 1 rfl ?_
  refine r_aload_n C dL_law_364 3 rfl ?_
  refine r_iload_n C dL_law_365 0 rfl ?_
  refine r_iconst C dL_law_366 ic_1 ?_
  refine r_iadd C dL_law_367 ?_
  refine r_xld (q := 6 * j + 1) hX hbl hbA C dL_law_368 (nI_add (6 * j) 1) (by omega) hL ?_
  refine r_aload_n C dL_law_369 3 rfl ?_
  refine r_iload_n C dL_law_370 0 rfl ?_
  refine r_iconst C dL_law_371 ic_2 ?_
  refine r_iadd C dL_law_372 ?_
  refine r_xld (q := 6 * j + 2) hX hbl hbA C dL_law_373 (nI_add (6 * j) 2) (by omega) hL ?_
  refine r_callV (G := (c, s, sh, R)) (a := 139) (As := [.int (xs (6 * j + 1)), .int (xs (6 * j + 2))]) (rest := [.int r]) C mlL_31 dL_law_374 (tX12_current (l := Z.1.2.1) (w := zw Z) hY 5001 (xs (6 * j + 1)) (xs (6 * j + 2)) e2) rfl rfl (ly139 hY) rfl (by rw [hRm]; exact ⟨nle rfl, nle rfl⟩) (by rw [hRm]; exact ⟨hc, hs⟩) (nle rfl) ?_
  show Wm Z (c, s, sh, R) μ2 377 (LV Z b (6 * j)) [.int r, .int r]
  refine r_icmp_eq 1735 C dL_law_377 (by decide) (fun _ => ?_) (fun c => absurd rfl c)
  exact kk _ _ sh R μ2 (by omega) (by omega) e3 hY
set_option maxRecDepth 100000 in
set_option maxHeartbeats 4000000 in
theorem lc4 {Z : ZC} {b L j c s : Nat} {xs : Nat → Int32} {sh : List Sh} {R : Rf} {μ : Mu} (hW : LW Z b L xs) (hI : INV j sh R μ) (hY : LY sh R) (hq : 6 * j + 6 ≤ L) (hc : c + 19 ≤ 600000) (hs : s + 1107 ≤ 7302250) (kk : LN Z b j c s) : Wm Z (c, s, sh, R) μ 382 (LV Z b (6 * j)) [] := by
  obtain ⟨C, hRm, hX, hbl, hbA, hL⟩ := hW
  have hk : j < 512 := by omega
  have hc : c + 0 ≤ 600000 := by omega
  have hs : s + 0 ≤ 7302250 := by omega
  obtain ⟨r, μ1, μ2, e1, e2, e3⟩ := m_person (n := 5001) (k := j) (x := (xs (6 * j + 1))) (y := (xs (6 * j + 2))) hI hk (by decide)
  refine r_aload_n C dL_law_382 2 rfl ?_
  refine r_aload_n C dL_law_383 3 rfl ?_
  refine r_iload_n C dL_law_384 0 rfl ?_
  refine r_iconst C dL_law_385 ic_1 ?_
  refine r_iadd C dL_law_386 ?_
  refine r_xld (q := 6 * j + 1) hX hbl hbA C dL_law_387 (nI_add (6 * j) 1) (by omega) hL ?_
  refine r_aload_n C dL_law_388 3 rfl ?_
  refine r_iload_n C dL_law_389 0 rfl ?_
  refine r_iconst C dL_law_390 ic_2 ?_
  refine r_iadd C dL_law_391 ?_
  refine r_xld (q := 6 * j + 2) hX hbl hbA C dL_law_392 (nI_add (6 * j) 2) (by omega) hL ?_
  refine r_callV (G := (c, s, sh, R)) (a := 0) (As := [.int (xs (6 * j + 1)), .int (xs (6 * j + 2))]) (rest := []) C mlL_32 dL_law_393 (tX11_person (l := Z.1.2.1) (w := zw Z) hY 5001 (xs (6 * j + 1)) (xs (6 * j + 2)) e1) rfl rfl (ly0 hY) rfl (by rw [hRm]; exact ⟨nle rfl, nle rfl⟩) (by rw [hRm]; exact ⟨hc, hs⟩) (nle rfl) ?_
  show Wm Z (c, s, sh, R) μ1 396 (LV Z b (6 * j)) [.int r]
  refine r_aload_n C dL_law_396 1 rfl ?_
  refine r_aload_n C dL_law_397 3 rfl ?_
  refine r_iload_n C dL_law_398 0 rfl ?_
  refine r_iconst C dL_law_399 ic_1 ?_
  refine r_iadd C dL_law_400 ?_
  refine r_xld (q := 6 * j + 1) hX hbl hbA C dL_law_401 (nI_add (6 * j) 1) (by omega) hL ?_
  refine r_aload_n C dL_law_402 3 rfl ?_
  refine r_iload_n C dL_law_403 0 rfl ?_
  refine r_iconst C dL_law_404 ic_2 ?_
  refine r_iadd C dL_law_405 ?_
  refine r_xld (q := 6 * j + 2) hX hbl hbA C dL_law_406 (nI_add (6 * j) 2) (by omega) hL ?_
  refine r_callV (G := (c, s, sh, R)) (a := 139) (As := [.int (xs (6 * j + 1)), .int (xs (6 * j + 2))]) (rest := [.int r]) C mlL_35 dL_law_407 (tX12_person (l := Z.1.2.1) (w := zw Z) hY 5001 (xs (6 * j + 1)) (xs (6 * j + 2)) e2) rfl rfl (ly139 hY) rfl (by rw [hRm]; exact ⟨nle rfl, nle rfl⟩) (by rw [hRm]; exact ⟨hc, hs⟩) (nle rfl) ?_
  show Wm Z (c, s, sh, R) μ2 410 (LV Z b (6 * j)) [.int r, .int r]
  refine r_icmp_eq 1735 C dL_law_410 (by decide) (fun _ => ?_) (fun c => absurd rfl c)
  exact kk _ _ sh R μ2 (by omega) (by omega) e3 hY
set_option maxRecDepth 100000 in
set_option maxHeartbeats 4000000 in
theorem lc5 {Z : ZC} {b L j c s : Nat} {xs : Nat → Int32} {sh : List Sh} {R : Rf} {μ : Mu} (hW : LW Z b L xs) (hI : INV j sh R μ) (hY : LY sh R) (hq : 6 * j + 6 ≤ L) (hc : c + 19 ≤ 600000) (hs : s + 1107 ≤ 7302250) (kk : LN Z b j c s) : Wm Z (c, s, sh, R) μ 415 (LV Z b (6 * j)) [] := by
  obtain ⟨C, hRm, hX, hbl, hbA, hL⟩ := hW
  have hk : j < 512 := by omega
  have hc : c + 0 ≤ 600000 := by omega
  have hs : s + 0 ≤ 7302250 := by omega
  obtain ⟨r, μ1, μ2, e1, e2, e3⟩ := m_shell (n := 5001) (k := j) (x := (xs (6 * j + 1))) (y := (xs (6 * j + 2))) hI hk (by decide)
  obtain ⟨r0, e5, e0⟩ := bnd_inv e1
  obtain ⟨h1, h2⟩ := Prod.mk.inj (Option.some.inj e0)
  subst h1; subst h2
  refine r_aload_n C dL_law_415 2 rfl ?_
  refine r_aload_n C dL_law_416 3 rfl ?_
  refine r_iload_n C dL_law_417 0 rfl ?_
  refine r_iconst C dL_law_418 ic_1 ?_
  refine r_iadd C dL_law_419 ?_
  refine r_xld (q := 6 * j + 1) hX hbl hbA C dL_law_420 (nI_add (6 * j) 1) (by omega) hL ?_
  refine r_aload_n C dL_law_421 3 rfl ?_
  refine r_iload_n C dL_law_422 0 rfl ?_
  refine r_iconst C dL_law_423 ic_2 ?_
  refine r_iadd C dL_law_424 ?_
  refine r_xld (q := 6 * j + 2) hX hbl hbA C dL_law_425 (nI_add (6 * j) 2) (by omega) hL ?_
  refine r_callV (G := (c, s, sh, R)) (a := 0) (As := [.int (xs (6 * j + 1)), .int (xs (6 * j + 2))]) (rest := []) C mlL_36 dL_law_426 (tX11_shell (l := Z.1.2.1) (w := zw Z) hY 5001 (xs (6 * j + 1)) (xs (6 * j + 2)) e5) rfl rfl (ly0 hY) rfl (by rw [hRm]; exact ⟨nle rfl, nle rfl⟩) (by rw [hRm]; exact ⟨hc, hs⟩) (nle rfl) ?_
  show Wm Z (c, s, sh, R) μ 429 (LV Z b (6 * j)) [.int r0]
  refine r_aload_n C dL_law_429 1 rfl ?_
  refine r_aload_n C dL_law_430 3 rfl ?_
  refine r_iload_n C dL_law_431 0 rfl ?_
  refine r_iconst C dL_law_432 ic_1 ?_
  refine r_iadd C dL_law_433 ?_
  refine r_xld (q := 6 * j + 1) hX hbl hbA C dL_law_434 (nI_add (6 * j) 1) (by omega) hL ?_
  refine r_aload_n C dL_law_435 3 rfl ?_
  refine r_iload_n C dL_law_436 0 rfl ?_
  refine r_iconst C dL_law_437 ic_2 ?_
  refine r_iadd C dL_law_438 ?_
  refine r_xld (q := 6 * j + 2) hX hbl hbA C dL_law_439 (nI_add (6 * j) 2) (by omega) hL ?_
  refine r_callV (G := (c, s, sh, R)) (a := 139) (As := [.int (xs (6 * j + 1)), .int (xs (6 * j + 2))]) (rest := [.int r0]) C mlL_39 dL_law_440 (tX12_shell (l := Z.1.2.1) (w := zw Z) hY 5001 (xs (6 * j + 1)) (xs (6 * j + 2)) e2) rfl rfl (ly139 hY) rfl (by rw [hRm]; exact ⟨nle rfl, nle rfl⟩) (by rw [hRm]; exact ⟨hc, hs⟩) (nle rfl) ?_
  show Wm Z (c, s, sh, R) μ2 443 (LV Z b (6 * j)) [.int r0, .int r0]
  refine r_icmp_eq 1735 C dL_law_443 (by decide) (fun _ => ?_) (fun c => absurd rfl c)
  exact kk _ _ sh R μ2 (by omega) (by omega) e3 hY
set_option maxRecDepth 100000 in
set_option maxHeartbeats 4000000 in
theorem lc6 {Z : ZC} {b L j c s : Nat} {xs : Nat → Int32} {sh : List Sh} {R : Rf} {μ : Mu} (hW : LW Z b L xs) (hI : INV j sh R μ) (hY : LY sh R) (hq : 6 * j + 6 ≤ L) (hc : c + 19 ≤ 600000) (hs : s + 1107 ≤ 7302250) (kk : LN Z b j c s) : Wm Z (c, s, sh, R) μ 448 (LV Z b (6 * j)) [] := by
  obtain ⟨C, hRm, hX, hbl, hbA, hL⟩ := hW
  have hk : j < 512 := by omega
  have hc : c + 0 ≤ 600000 := by omega
  have hs : s + 0 ≤ 7302250 := by omega
  obtain ⟨r, μ1, μ2, e1, e2, e3⟩ := m_word (n := 5001) (k := j) (x := (xs (6 * j + 1))) (y := (xs (6 * j + 2))) hI hk (by decide)
  obtain ⟨r0, e5, e0⟩ := bnd_inv e1
  obtain ⟨h1, h2⟩ := Prod.mk.inj (Option.some.inj e0)
  subst h1; subst h2
  refine r_aload_n C dL_law_448 2 rfl ?_
  refine r_aload_n C dL_law_449 3 rfl ?_
  refine r_iload_n C dL_law_450 0 rfl ?_
  refine r_iconst C dL_law_451 ic_1 ?_
  refine r_iadd C dL_law_452 ?_
  refine r_xld (q := 6 * j + 1) hX hbl hbA C dL_law_453 (nI_add (6 * j) 1) (by omega) hL ?_
  refine r_aload_n C dL_law_454 3 rfl ?_
  refine r_iload_n C dL_law_455 0 rfl ?_
  refine r_iconst C dL_law_456 ic_2 ?_
  refine r_iadd C dL_law_457 ?_
  refine r_xld (q := 6 * j + 2) hX hbl hbA C dL_law_458 (nI_add (6 * j) 2) (by omega) hL ?_
  refine r_callV (G := (c, s, sh, R)) (a := 0) (As := [.int (xs (6 * j + 1)), .int (xs (6 * j + 2))]) (rest := []) C mlL_40 dL_law_459 (tX11_word (l := Z.1.2.1) (w := zw Z) hY 5001 (xs (6 * j + 1)) (xs (6 * j + 2)) e5) rfl rfl (ly0 hY) rfl (by rw [hRm]; exact ⟨nle rfl, nle rfl⟩) (by rw [hRm]; exact ⟨hc, hs⟩) (nle rfl) ?_
  show Wm Z (c, s, sh, R) μ 462 (LV Z b (6 * j)) [.int r0]
  refine r_aload_n C dL_law_462 1 rfl ?_
  refine r_aload_n C dL_law_463 3 rfl ?_
  refine r_iload_n C dL_law_464 0 rfl ?_
  refine r_iconst C dL_law_465 ic_1 ?_
  refine r_iadd C dL_law_466 ?_
  refine r_xld (q := 6 * j + 1) hX hbl hbA C dL_law_467 (nI_add (6 * j) 1) (by omega) hL ?_
  refine r_aload_n C dL_law_468 3 rfl ?_
  refine r_iload_n C dL_law_469 0 rfl ?_
  refine r_iconst C dL_law_470 ic_2 ?_
  refine r_iadd C dL_law_471 ?_
  refine r_xld (q := 6 * j + 2) hX hbl hbA C dL_law_472 (nI_add (6 * j) 2) (by omega) hL ?_
  refine r_callV (G := (c, s, sh, R)) (a := 139) (As := [.int (xs (6 * j + 1)), .int (xs (6 * j + 2))]) (rest := [.int r0]) C mlL_43 dL_law_473 (tX12_word (l := Z.1.2.1) (w := zw Z) hY 5001 (xs (6 * j + 1)) (xs (6 * j + 2)) e2) rfl rfl (ly139 hY) rfl (by rw [hRm]; exact ⟨nle rfl, nle rfl⟩) (by rw [hRm]; exact ⟨hc, hs⟩) (nle rfl) ?_
  show Wm Z (c, s, sh, R) μ2 476 (LV Z b (6 * j)) [.int r0, .int r0]
  refine r_icmp_eq 1735 C dL_law_476 (by decide) (fun _ => ?_) (fun c => absurd rfl c)
  exact kk _ _ sh R μ2 (by omega) (by omega) e3 hY
set_option maxRecDepth 100000 in
set_option maxHeartbeats 4000000 in
theorem lc7 {Z : ZC} {b L j c s : Nat} {xs : Nat → Int32} {sh : List Sh} {R : Rf} {μ : Mu} (hW : LW Z b L xs) (hI : INV j sh R μ) (hY : LY sh R) (hq : 6 * j + 6 ≤ L) (hc : c + 19 ≤ 600000) (hs : s + 1107 ≤ 7302250) (kk : LN Z b j c s) : Wm Z (c, s, sh, R) μ 481 (LV Z b (6 * j)) [] := by
  obtain ⟨C, hRm, hX, hbl, hbA, hL⟩ := hW
  have hk : j < 512 := by omega
  have hc : c + 0 ≤ 600000 := by omega
  have hs : s + 0 ≤ 7302250 := by omega
  obtain ⟨r, μ1, μ2, e1, e2, e3⟩ := m_sound (n := 5001) (k := j) (x := (xs (6 * j + 1))) (y := (xs (6 * j + 2))) hI hk (by decide)
  refine r_aload_n C dL_law_481 2 rfl ?_
  refine r_aload_n C dL_law_482 3 rfl ?_
  refine r_iload_n C dL_law_483 0 rfl ?_
  refine r_iconst C dL_law_484 ic_1 ?_
  refine r_iadd C dL_law_485 ?_
  refine r_xld (q := 6 * j + 1) hX hbl hbA C dL_law_486 (nI_add (6 * j) 1) (by omega) hL ?_
  refine r_aload_n C dL_law_487 3 rfl ?_
  refine r_iload_n C dL_law_488 0 rfl ?_
  refine r_iconst C dL_law_489 ic_2 ?_
  refine r_iadd C dL_law_490 ?_
  refine r_xld (q := 6 * j + 2) hX hbl hbA C dL_law_491 (nI_add (6 * j) 2) (by omega) hL ?_
  refine r_callV (G := (c, s, sh, R)) (a := 0) (As := [.int (xs (6 * j + 1)), .int (xs (6 * j + 2))]) (rest := []) C mlL_44 dL_law_492 (tX11_sound (l := Z.1.2.1) (w := zw Z) hY 5001 (xs (6 * j + 1)) (xs (6 * j + 2)) e1) rfl rfl (ly0 hY) rfl (by rw [hRm]; exact ⟨nle rfl, nle rfl⟩) (by rw [hRm]; exact ⟨hc, hs⟩) (nle rfl) ?_
  show Wm Z (c, s, sh, R) μ1 495 (LV Z b (6 * j)) [.int r]
  refine r_aload_n C dL_law_495 1 rfl ?_
  refine r_aload_n C dL_law_496 3 rfl ?_
  refine r_iload_n C dL_law_497 0 rfl ?_
  refine r_iconst C dL_law_498 ic_1 ?_
  refine r_iadd C dL_law_499 ?_
  refine r_xld (q := 6 * j + 1) hX hbl hbA C dL_law_500 (nI_add (6 * j) 1) (by omega) hL ?_
  refine r_aload_n C dL_law_501 3 rfl ?_
  refine r_iload_n C dL_law_502 0 rfl ?_
  refine r_iconst C dL_law_503 ic_2 ?_
  refine r_iadd C dL_law_504 ?_
  refine r_xld (q := 6 * j + 2) hX hbl hbA C dL_law_505 (nI_add (6 * j) 2) (by omega) hL ?_
  refine r_callV (G := (c, s, sh, R)) (a := 139) (As := [.int (xs (6 * j + 1)), .int (xs (6 * j + 2))]) (rest := [.int r]) C mlL_47 dL_law_506 (tX12_sound (l := Z.1.2.1) (w := zw Z) hY 5001 (xs (6 * j + 1)) (xs (6 * j + 2)) e2) rfl rfl (ly139 hY) rfl (by rw [hRm]; exact ⟨nle rfl, nle rfl⟩) (by rw [hRm]; exact ⟨hc, hs⟩) (nle rfl) ?_
  show Wm Z (c, s, sh, R) μ2 509 (LV Z b (6 * j)) [.int r, .int r]
  refine r_icmp_eq 1735 C dL_law_509 (by decide) (fun _ => ?_) (fun c => absurd rfl c)
  exact kk _ _ sh R μ2 (by omega) (by omega) e3 hY
set_option maxRecDepth 100000 in
set_option maxHeartbeats 4000000 in
theorem lc8 {Z : ZC} {b L j c s : Nat} {xs : Nat → Int32} {sh : List Sh} {R : Rf} {μ : Mu} (hW : LW Z b L xs) (hI : INV j sh R μ) (hY : LY sh R) (hq : 6 * j + 6 ≤ L) (hc : c + 19 ≤ 600000) (hs : s + 1107 ≤ 7302250) (kk : LN Z b j c s) : Wm Z (c, s, sh, R) μ 514 (LV Z b (6 * j)) [] := by
  obtain ⟨C, hRm, hX, hbl, hbA, hL⟩ := hW
  have hk : j < 512 := by omega
  have hc : c + 0 ≤ 600000 := by omega
  have hs : s + 0 ≤ 7302250 := by omega
  obtain ⟨r, μ1, μ2, e1, e2, e3⟩ := m_seed (n := 5001) (k := j) (x := (xs (6 * j + 1))) hI hk (by decide)
  refine r_aload_n C dL_law_514 2 rfl ?_
  refine r_aload_n C dL_law_515 3 rfl ?_
  refine r_iload_n C dL_law_516 0 rfl ?_
  refine r_iconst C dL_law_517 ic_1 ?_
  refine r_iadd C dL_law_518 ?_
  refine r_xld (q := 6 * j + 1) hX hbl hbA C dL_law_519 (nI_add (6 * j) 1) (by omega) hL ?_
  refine r_callV (G := (c, s, sh, R)) (a := 0) (As := [.int (xs (6 * j + 1))]) (rest := []) C mlL_48 dL_law_520 (tX11_seed (l := Z.1.2.1) (w := zw Z) hY 5001 (xs (6 * j + 1)) e1) rfl rfl (ly0 hY) rfl (by rw [hRm]; exact ⟨nle rfl, nle rfl⟩) (by rw [hRm]; exact ⟨hc, hs⟩) (nle rfl) ?_
  show Wm Z (c, s, sh, R) μ1 523 (LV Z b (6 * j)) [.int r]
  refine r_aload_n C dL_law_523 1 rfl ?_
  refine r_aload_n C dL_law_524 3 rfl ?_
  refine r_iload_n C dL_law_525 0 rfl ?_
  refine r_iconst C dL_law_526 ic_1 ?_
  refine r_iadd C dL_law_527 ?_
  refine r_xld (q := 6 * j + 1) hX hbl hbA C dL_law_528 (nI_add (6 * j) 1) (by omega) hL ?_
  refine r_callV (G := (c, s, sh, R)) (a := 139) (As := [.int (xs (6 * j + 1))]) (rest := [.int r]) C mlL_51 dL_law_529 (tX12_seed (l := Z.1.2.1) (w := zw Z) hY 5001 (xs (6 * j + 1)) e2) rfl rfl (ly139 hY) rfl (by rw [hRm]; exact ⟨nle rfl, nle rfl⟩) (by rw [hRm]; exact ⟨hc, hs⟩) (nle rfl) ?_
  show Wm Z (c, s, sh, R) μ2 532 (LV Z b (6 * j)) [.int r, .int r]
  refine r_icmp_eq 1735 C dL_law_532 (by decide) (fun _ => ?_) (fun c => absurd rfl c)
  exact kk _ _ sh R μ2 (by omega) (by omega) e3 hY
set_option maxRecDepth 100000 in
set_option maxHeartbeats 4000000 in
theorem lc9 {Z : ZC} {b L j c s : Nat} {xs : Nat → Int32} {sh : List Sh} {R : Rf} {μ : Mu} (hW : LW Z b L xs) (hI : INV j sh R μ) (hY : LY sh R) (hq : 6 * j + 6 ≤ L) (hc : c + 19 ≤ 600000) (hs : s + 1107 ≤ 7302250) (kk : LN Z b j c s) : Wm Z (c, s, sh, R) μ 537 (LV Z b (6 * j)) [] := by
  obtain ⟨C, hRm, hX, hbl, hbA, hL⟩ := hW
  have hk : j < 512 := by omega
  have hc : c + 0 ≤ 600000 := by omega
  have hs : s + 0 ≤ 7302250 := by omega
  obtain ⟨r, μ1, μ2, e1, e2, e3⟩ := m_whisper (n := 5001) (k := j) (x := (xs (6 * j + 1))) hI hk (by decide)
  refine r_aload_n C dL_law_537 2 rfl ?_
  refine r_aload_n C dL_law_538 3 rfl ?_
  refine r_iload_n C dL_law_539 0 rfl ?_
  refine r_iconst C dL_law_540 ic_1 ?_
  refine r_iadd C dL_law_541 ?_
  refine r_xld (q := 6 * j + 1) hX hbl hbA C dL_law_542 (nI_add (6 * j) 1) (by omega) hL ?_
  refine r_callV (G := (c, s, sh, R)) (a := 0) (As := [.int (xs (6 * j + 1))]) (rest := []) C mlL_52 dL_law_543 (tX11_whisper (l := Z.1.2.1) (w := zw Z) hY 5001 (xs (6 * j + 1)) e1) rfl rfl (ly0 hY) rfl (by rw [hRm]; exact ⟨nle rfl, nle rfl⟩) (by rw [hRm]; exact ⟨hc, hs⟩) (nle rfl) ?_
  show Wm Z (c, s, sh, R) μ1 546 (LV Z b (6 * j)) [.int r]
  refine r_aload_n C dL_law_546 1 rfl ?_
  refine r_aload_n C dL_law_547 3 rfl ?_
  refine r_iload_n C dL_law_548 0 rfl ?_
  refine r_iconst C dL_law_549 ic_1 ?_
  refine r_iadd C dL_law_550 ?_
  refine r_xld (q := 6 * j + 1) hX hbl hbA C dL_law_551 (nI_add (6 * j) 1) (by omega) hL ?_
  refine r_callV (G := (c, s, sh, R)) (a := 139) (As := [.int (xs (6 * j + 1))]) (rest := [.int r]) C mlL_55 dL_law_552 (tX12_whisper (l := Z.1.2.1) (w := zw Z) hY 5001 (xs (6 * j + 1)) e2) rfl rfl (ly139 hY) rfl (by rw [hRm]; exact ⟨nle rfl, nle rfl⟩) (by rw [hRm]; exact ⟨hc, hs⟩) (nle rfl) ?_
  show Wm Z (c, s, sh, R) μ2 555 (LV Z b (6 * j)) [.int r, .int r]
  refine r_icmp_eq 1735 C dL_law_555 (by decide) (fun _ => ?_) (fun c => absurd rfl c)
  exact kk _ _ sh R μ2 (by omega) (by omega) e3 hY
set_option maxRecDepth 100000 in
set_option maxHeartbeats 4000000 in
theorem lc10 {Z : ZC} {b L j c s : Nat} {xs : Nat → Int32} {sh : List Sh} {R : Rf} {μ : Mu} (hW : LW Z b L xs) (hI : INV j sh R μ) (hY : LY sh R) (hq : 6 * j + 6 ≤ L) (hc : c + 19 ≤ 600000) (hs : s + 1107 ≤ 7302250) (kk : LN Z b j c s) : Wm Z (c, s, sh, R) μ 560 (LV Z b (6 * j)) [] := by
  obtain ⟨C, hRm, hX, hbl, hbA, hL⟩ := hW
  have hk : j < 512 := by omega
  have hc : c + 0 ≤ 600000 := by omega
  have hs : s + 0 ≤ 7302250 := by omega
  obtain ⟨r, μ1, μ2, e1, e2, e3⟩ := m_give (n := 5001) (k := j) (x := (xs (6 * j + 1))) (y := (xs (6 * j + 2))) hI hk (by decide)
  refine r_aload_n C dL_law_560 2 rfl ?_
  refine r_aload_n C dL_law_561 3 rfl ?_
  refine r_iload_n C dL_law_562 0 rfl ?_
  refine r_iconst C dL_law_563 ic_1 ?_
  refine r_iadd C dL_law_564 ?_
  refine r_xld (q := 6 * j + 1) hX hbl hbA C dL_law_565 (nI_add (6 * j) 1) (by omega) hL ?_
  refine r_aload_n C dL_law_566 3 rfl ?_
  refine r_iload_n C dL_law_567 0 rfl ?_
  refine r_iconst C dL_law_568 ic_2 ?_
  refine r_iadd C dL_law_569 ?_
  refine r_xld (q := 6 * j + 2) hX hbl hbA C dL_law_570 (nI_add (6 * j) 2) (by omega) hL ?_
  refine r_callV (G := (c, s, sh, R)) (a := 0) (As := [.int (xs (6 * j + 1)), .int (xs (6 * j + 2))]) (rest := []) C mlL_56 dL_law_571 (tX11_give (l := Z.1.2.1) (w := zw Z) hY 5001 (xs (6 * j + 1)) (xs (6 * j + 2)) e1) rfl rfl (ly0 hY) rfl (by rw [hRm]; exact ⟨nle rfl, nle rfl⟩) (by rw [hRm]; exact ⟨hc, hs⟩) (nle rfl) ?_
  show Wm Z (c, s, sh, R) μ1 574 (LV Z b (6 * j)) [.int r]
  refine r_aload_n C dL_law_574 1 rfl ?_
  refine r_aload_n C dL_law_575 3 rfl ?_
  refine r_iload_n C dL_law_576 0 rfl ?_
  refine r_iconst C dL_law_577 ic_1 ?_
  refine r_iadd C dL_law_578 ?_
  refine r_xld (q := 6 * j + 1) hX hbl hbA C dL_law_579 (nI_add (6 * j) 1) (by omega) hL ?_
  refine r_aload_n C dL_law_580 3 rfl ?_
  refine r_iload_n C dL_law_581 0 rfl ?_
  refine r_iconst C dL_law_582 ic_2 ?_
  refine r_iadd C dL_law_583 ?_
  refine r_xld (q := 6 * j + 2) hX hbl hbA C dL_law_584 (nI_add (6 * j) 2) (by omega) hL ?_
  refine r_callV (G := (c, s, sh, R)) (a := 139) (As := [.int (xs (6 * j + 1)), .int (xs (6 * j + 2))]) (rest := [.int r]) C mlL_59 dL_law_585 (tX12_give (l := Z.1.2.1) (w := zw Z) hY 5001 (xs (6 * j + 1)) (xs (6 * j + 2)) e2) rfl rfl (ly139 hY) rfl (by rw [hRm]; exact ⟨nle rfl, nle rfl⟩) (by rw [hRm]; exact ⟨hc, hs⟩) (nle rfl) ?_
  show Wm Z (c, s, sh, R) μ2 588 (LV Z b (6 * j)) [.int r, .int r]
  refine r_icmp_eq 1735 C dL_law_588 (by decide) (fun _ => ?_) (fun c => absurd rfl c)
  exact kk _ _ sh R μ2 (by omega) (by omega) e3 hY
set_option maxRecDepth 100000 in
set_option maxHeartbeats 4000000 in
theorem lc11 {Z : ZC} {b L j c s : Nat} {xs : Nat → Int32} {sh : List Sh} {R : Rf} {μ : Mu} (hW : LW Z b L xs) (hI : INV j sh R μ) (hY : LY sh R) (hq : 6 * j + 6 ≤ L) (hc : c + 19 ≤ 600000) (hs : s + 1107 ≤ 7302250) (kk : LN Z b j c s) : Wm Z (c, s, sh, R) μ 593 (LV Z b (6 * j)) [] := by
  obtain ⟨C, hRm, hX, hbl, hbA, hL⟩ := hW
  have hk : j < 512 := by omega
  have hc : c + 0 ≤ 600000 := by omega
  have hs : s + 0 ≤ 7302250 := by omega
  obtain ⟨r, μ1, μ2, e1, e2, e3⟩ := m_lay (n := 5001) (k := j) (x := (xs (6 * j + 1))) hI hk (by decide)
  refine r_aload_n C dL_law_593 2 rfl ?_
  refine r_aload_n C dL_law_594 3 rfl ?_
  refine r_iload_n C dL_law_595 0 rfl ?_
  refine r_iconst C dL_law_596 ic_1 ?_
  refine r_iadd C dL_law_597 ?_
  refine r_xld (q := 6 * j + 1) hX hbl hbA C dL_law_598 (nI_add (6 * j) 1) (by omega) hL ?_
  refine r_callV (G := (c, s, sh, R)) (a := 0) (As := [.int (xs (6 * j + 1))]) (rest := []) C mlL_60 dL_law_599 (tX11_lay (l := Z.1.2.1) (w := zw Z) hY 5001 (xs (6 * j + 1)) e1) rfl rfl (ly0 hY) rfl (by rw [hRm]; exact ⟨nle rfl, nle rfl⟩) (by rw [hRm]; exact ⟨hc, hs⟩) (nle rfl) ?_
  show Wm Z (c, s, sh, R) μ1 602 (LV Z b (6 * j)) [.int r]
  refine r_aload_n C dL_law_602 1 rfl ?_
  refine r_aload_n C dL_law_603 3 rfl ?_
  refine r_iload_n C dL_law_604 0 rfl ?_
  refine r_iconst C dL_law_605 ic_1 ?_
  refine r_iadd C dL_law_606 ?_
  refine r_xld (q := 6 * j + 1) hX hbl hbA C dL_law_607 (nI_add (6 * j) 1) (by omega) hL ?_
  refine r_callV (G := (c, s, sh, R)) (a := 139) (As := [.int (xs (6 * j + 1))]) (rest := [.int r]) C mlL_63 dL_law_608 (tX12_lay (l := Z.1.2.1) (w := zw Z) hY 5001 (xs (6 * j + 1)) e2) rfl rfl (ly139 hY) rfl (by rw [hRm]; exact ⟨nle rfl, nle rfl⟩) (by rw [hRm]; exact ⟨hc, hs⟩) (nle rfl) ?_
  show Wm Z (c, s, sh, R) μ2 611 (LV Z b (6 * j)) [.int r, .int r]
  refine r_icmp_eq 1735 C dL_law_611 (by decide) (fun _ => ?_) (fun c => absurd rfl c)
  exact kk _ _ sh R μ2 (by omega) (by omega) e3 hY
set_option maxRecDepth 100000 in
set_option maxHeartbeats 4000000 in
theorem lc12 {Z : ZC} {b L j c s : Nat} {xs : Nat → Int32} {sh : List Sh} {R : Rf} {μ : Mu} (hW : LW Z b L xs) (hI : INV j sh R μ) (hY : LY sh R) (hq : 6 * j + 6 ≤ L) (hc : c + 19 ≤ 600000) (hs : s + 1107 ≤ 7302250) (kk : LN Z b j c s) : Wm Z (c, s, sh, R) μ 616 (LV Z b (6 * j)) [] := by
  obtain ⟨C, hRm, hX, hbl, hbA, hL⟩ := hW
  have hk : j < 512 := by omega
  have hc : c + 0 ≤ 600000 := by omega
  have hs : s + 0 ≤ 7302250 := by omega
  obtain ⟨r, μ1, μ2, e1, e2, e3⟩ := m_gale (n := 5001) (k := j) (x := (xs (6 * j + 1))) hI hk (by decide)
  refine r_aload_n C dL_law_616 2 rfl ?_
  refine r_aload_n C dL_law_617 3 rfl ?_
  refine r_iload_n C dL_law_618 0 rfl ?_
  refine r_iconst C dL_law_619 ic_1 ?_
  refine r_iadd C dL_law_620 ?_
  refine r_xld (q := 6 * j + 1) hX hbl hbA C dL_law_621 (nI_add (6 * j) 1) (by omega) hL ?_
  refine r_callV (G := (c, s, sh, R)) (a := 0) (As := [.int (xs (6 * j + 1))]) (rest := []) C mlL_64 dL_law_622 (tX11_gale (l := Z.1.2.1) (w := zw Z) hY 5001 (xs (6 * j + 1)) e1) rfl rfl (ly0 hY) rfl (by rw [hRm]; exact ⟨nle rfl, nle rfl⟩) (by rw [hRm]; exact ⟨hc, hs⟩) (nle rfl) ?_
  show Wm Z (c, s, sh, R) μ1 625 (LV Z b (6 * j)) [.int r]
  refine r_aload_n C dL_law_625 1 rfl ?_
  refine r_aload_n C dL_law_626 3 rfl ?_
  refine r_iload_n C dL_law_627 0 rfl ?_
  refine r_iconst C dL_law_628 ic_1 ?_
  refine r_iadd C dL_law_629 ?_
  refine r_xld (q := 6 * j + 1) hX hbl hbA C dL_law_630 (nI_add (6 * j) 1) (by omega) hL ?_
  refine r_callV (G := (c, s, sh, R)) (a := 139) (As := [.int (xs (6 * j + 1))]) (rest := [.int r]) C mlL_67 dL_law_631 (tX12_gale (l := Z.1.2.1) (w := zw Z) hY 5001 (xs (6 * j + 1)) e2) rfl rfl (ly139 hY) rfl (by rw [hRm]; exact ⟨nle rfl, nle rfl⟩) (by rw [hRm]; exact ⟨hc, hs⟩) (nle rfl) ?_
  show Wm Z (c, s, sh, R) μ2 634 (LV Z b (6 * j)) [.int r, .int r]
  refine r_icmp_eq 1735 C dL_law_634 (by decide) (fun _ => ?_) (fun c => absurd rfl c)
  exact kk _ _ sh R μ2 (by omega) (by omega) e3 hY
set_option maxRecDepth 100000 in
set_option maxHeartbeats 4000000 in
theorem lc13 {Z : ZC} {b L j c s : Nat} {xs : Nat → Int32} {sh : List Sh} {R : Rf} {μ : Mu} (hW : LW Z b L xs) (hI : INV j sh R μ) (hY : LY sh R) (hq : 6 * j + 6 ≤ L) (hc : c + 19 ≤ 600000) (hs : s + 1107 ≤ 7302250) (kk : LN Z b j c s) : Wm Z (c, s, sh, R) μ 639 (LV Z b (6 * j)) [] := by
  obtain ⟨C, hRm, hX, hbl, hbA, hL⟩ := hW
  have hk : j < 512 := by omega
  have hc : c + 0 ≤ 600000 := by omega
  have hs : s + 0 ≤ 7302250 := by omega
  obtain ⟨r, μ1, μ2, e1, e2, e3⟩ := m_hours (n := 5001) (k := j) (x := (xs (6 * j + 1))) hI hk (by decide)
  refine r_aload_n C dL_law_639 2 rfl ?_
  refine r_aload_n C dL_law_640 3 rfl ?_
  refine r_iload_n C dL_law_641 0 rfl ?_
  refine r_iconst C dL_law_642 ic_1 ?_
  refine r_iadd C dL_law_643 ?_
  refine r_xld (q := 6 * j + 1) hX hbl hbA C dL_law_644 (nI_add (6 * j) 1) (by omega) hL ?_
  refine r_callV (G := (c, s, sh, R)) (a := 0) (As := [.int (xs (6 * j + 1))]) (rest := []) C mlL_68 dL_law_645 (tX11_hours (l := Z.1.2.1) (w := zw Z) hY 5001 (xs (6 * j + 1)) e1) rfl rfl (ly0 hY) rfl (by rw [hRm]; exact ⟨nle rfl, nle rfl⟩) (by rw [hRm]; exact ⟨hc, hs⟩) (nle rfl) ?_
  show Wm Z (c, s, sh, R) μ1 648 (LV Z b (6 * j)) [.int r]
  refine r_aload_n C dL_law_648 1 rfl ?_
  refine r_aload_n C dL_law_649 3 rfl ?_
  refine r_iload_n C dL_law_650 0 rfl ?_
  refine r_iconst C dL_law_651 ic_1 ?_
  refine r_iadd C dL_law_652 ?_
  refine r_xld (q := 6 * j + 1) hX hbl hbA C dL_law_653 (nI_add (6 * j) 1) (by omega) hL ?_
  refine r_callV (G := (c, s, sh, R)) (a := 139) (As := [.int (xs (6 * j + 1))]) (rest := [.int r]) C mlL_71 dL_law_654 (tX12_hours (l := Z.1.2.1) (w := zw Z) hY 5001 (xs (6 * j + 1)) e2) rfl rfl (ly139 hY) rfl (by rw [hRm]; exact ⟨nle rfl, nle rfl⟩) (by rw [hRm]; exact ⟨hc, hs⟩) (nle rfl) ?_
  show Wm Z (c, s, sh, R) μ2 657 (LV Z b (6 * j)) [.int r, .int r]
  refine r_icmp_eq 1735 C dL_law_657 (by decide) (fun _ => ?_) (fun c => absurd rfl c)
  exact kk _ _ sh R μ2 (by omega) (by omega) e3 hY
set_option maxRecDepth 100000 in
set_option maxHeartbeats 4000000 in
theorem lc14 {Z : ZC} {b L j c s : Nat} {xs : Nat → Int32} {sh : List Sh} {R : Rf} {μ : Mu} (hW : LW Z b L xs) (hI : INV j sh R μ) (hY : LY sh R) (hq : 6 * j + 6 ≤ L) (hc : c + 19 ≤ 600000) (hs : s + 1107 ≤ 7302250) (kk : LN Z b j c s) : Wm Z (c, s, sh, R) μ 662 (LV Z b (6 * j)) [] := by
  obtain ⟨C, hRm, hX, hbl, hbA, hL⟩ := hW
  have hk : j < 512 := by omega
  have hc : c + 0 ≤ 600000 := by omega
  have hs : s + 0 ≤ 7302250 := by omega
  obtain ⟨r, μ1, μ2, e1, e2, e3⟩ := m_undo (n := 5001) (k := j) (x := (xs (6 * j + 1))) hI hk (by decide)
  refine r_aload_n C dL_law_662 2 rfl ?_
  refine r_aload_n C dL_law_663 3 rfl ?_
  refine r_iload_n C dL_law_664 0 rfl ?_
  refine r_iconst C dL_law_665 ic_1 ?_
  refine r_iadd C dL_law_666 ?_
  refine r_xld (q := 6 * j + 1) hX hbl hbA C dL_law_667 (nI_add (6 * j) 1) (by omega) hL ?_
  refine r_callV (G := (c, s, sh, R)) (a := 0) (As := [.int (xs (6 * j + 1))]) (rest := []) C mlL_72 dL_law_668 (tX11_undo (l := Z.1.2.1) (w := zw Z) hY 5001 (xs (6 * j + 1)) e1) rfl rfl (ly0 hY) rfl (by rw [hRm]; exact ⟨nle rfl, nle rfl⟩) (by rw [hRm]; exact ⟨hc, hs⟩) (nle rfl) ?_
  show Wm Z (c, s, sh, R) μ1 671 (LV Z b (6 * j)) [.int r]
  refine r_aload_n C dL_law_671 1 rfl ?_
  refine r_aload_n C dL_law_672 3 rfl ?_
  refine r_iload_n C dL_law_673 0 rfl ?_
  refine r_iconst C dL_law_674 ic_1 ?_
  refine r_iadd C dL_law_675 ?_
  refine r_xld (q := 6 * j + 1) hX hbl hbA C dL_law_676 (nI_add (6 * j) 1) (by omega) hL ?_
  refine r_callV (G := (c, s, sh, R)) (a := 139) (As := [.int (xs (6 * j + 1))]) (rest := [.int r]) C mlL_75 dL_law_677 (tX12_undo (l := Z.1.2.1) (w := zw Z) hY 5001 (xs (6 * j + 1)) e2) rfl rfl (ly139 hY) rfl (by rw [hRm]; exact ⟨nle rfl, nle rfl⟩) (by rw [hRm]; exact ⟨hc, hs⟩) (nle rfl) ?_
  show Wm Z (c, s, sh, R) μ2 680 (LV Z b (6 * j)) [.int r, .int r]
  refine r_icmp_eq 1735 C dL_law_680 (by decide) (fun _ => ?_) (fun c => absurd rfl c)
  exact kk _ _ sh R μ2 (by omega) (by omega) e3 hY
set_option maxRecDepth 100000 in
set_option maxHeartbeats 4000000 in
theorem lc15 {Z : ZC} {b L j c s : Nat} {xs : Nat → Int32} {sh : List Sh} {R : Rf} {μ : Mu} (hW : LW Z b L xs) (hI : INV j sh R μ) (hY : LY sh R) (hq : 6 * j + 6 ≤ L) (hc : c + 19 ≤ 600000) (hs : s + 1107 ≤ 7302250) (kk : LN Z b j c s) : Wm Z (c, s, sh, R) μ 685 (LV Z b (6 * j)) [] := by
  obtain ⟨C, hRm, hX, hbl, hbA, hL⟩ := hW
  have hk : j < 512 := by omega
  have hc : c + 0 ≤ 600000 := by omega
  have hs : s + 0 ≤ 7302250 := by omega
  obtain ⟨r, μ1, μ2, e1, e2, e3⟩ := m_judge (n := 5001) (k := j) (x := (xs (6 * j + 1))) (y := (xs (6 * j + 2))) hI hk (by decide)
  refine r_aload_n C dL_law_685 2 rfl ?_
  refine r_aload_n C dL_law_686 3 rfl ?_
  refine r_iload_n C dL_law_687 0 rfl ?_
  refine r_iconst C dL_law_688 ic_1 ?_
  refine r_iadd C dL_law_689 ?_
  refine r_xld (q := 6 * j + 1) hX hbl hbA C dL_law_690 (nI_add (6 * j) 1) (by omega) hL ?_
  refine r_aload_n C dL_law_691 3 rfl ?_
  refine r_iload_n C dL_law_692 0 rfl ?_
  refine r_iconst C dL_law_693 ic_2 ?_
  refine r_iadd C dL_law_694 ?_
  refine r_xld (q := 6 * j + 2) hX hbl hbA C dL_law_695 (nI_add (6 * j) 2) (by omega) hL ?_
  refine r_callV (G := (c, s, sh, R)) (a := 0) (As := [.int (xs (6 * j + 1)), .int (xs (6 * j + 2))]) (rest := []) C mlL_76 dL_law_696 (tX11_judge (l := Z.1.2.1) (w := zw Z) hY 5001 (xs (6 * j + 1)) (xs (6 * j + 2)) e1) rfl rfl (ly0 hY) rfl (by rw [hRm]; exact ⟨nle rfl, nle rfl⟩) (by rw [hRm]; exact ⟨hc, hs⟩) (nle rfl) ?_
  show Wm Z (c, s, sh, R) μ1 699 (LV Z b (6 * j)) [.int r]
  refine r_aload_n C dL_law_699 1 rfl ?_
  refine r_aload_n C dL_law_700 3 rfl ?_
  refine r_iload_n C dL_law_701 0 rfl ?_
  refine r_iconst C dL_law_702 ic_1 ?_
  refine r_iadd C dL_law_703 ?_
  refine r_xld (q := 6 * j + 1) hX hbl hbA C dL_law_704 (nI_add (6 * j) 1) (by omega) hL ?_
  refine r_aload_n C dL_law_705 3 rfl ?_
  refine r_iload_n C dL_law_706 0 rfl ?_
  refine r_iconst C dL_law_707 ic_2 ?_
  refine r_iadd C dL_law_708 ?_
  refine r_xld (q := 6 * j + 2) hX hbl hbA C dL_law_709 (nI_add (6 * j) 2) (by omega) hL ?_
  refine r_callV (G := (c, s, sh, R)) (a := 139) (As := [.int (xs (6 * j + 1)), .int (xs (6 * j + 2))]) (rest := [.int r]) C mlL_79 dL_law_710 (tX12_judge (l := Z.1.2.1) (w := zw Z) hY 5001 (xs (6 * j + 1)) (xs (6 * j + 2)) e2) rfl rfl (ly139 hY) rfl (by rw [hRm]; exact ⟨nle rfl, nle rfl⟩) (by rw [hRm]; exact ⟨hc, hs⟩) (nle rfl) ?_
  show Wm Z (c, s, sh, R) μ2 713 (LV Z b (6 * j)) [.int r, .int r]
  refine r_icmp_eq 1735 C dL_law_713 (by decide) (fun _ => ?_) (fun c => absurd rfl c)
  exact kk _ _ sh R μ2 (by omega) (by omega) e3 hY
set_option maxRecDepth 100000 in
set_option maxHeartbeats 4000000 in
theorem lc16 {Z : ZC} {b L j c s : Nat} {xs : Nat → Int32} {sh : List Sh} {R : Rf} {μ : Mu} (hW : LW Z b L xs) (hI : INV j sh R μ) (hY : LY sh R) (hq : 6 * j + 6 ≤ L) (hc : c + 19 ≤ 600000) (hs : s + 1107 ≤ 7302250) (kk : LN Z b j c s) : Wm Z (c, s, sh, R) μ 718 (LV Z b (6 * j)) [] := by
  obtain ⟨C, hRm, hX, hbl, hbA, hL⟩ := hW
  have hk : j < 512 := by omega
  have hc : c + 0 ≤ 600000 := by omega
  have hs : s + 0 ≤ 7302250 := by omega
  obtain ⟨r, μ1, μ2, e1, e2, e3⟩ := m_perform (n := 5001) (k := j) (x := (xs (6 * j + 1))) hI hk (by decide)
  refine r_aload_n C dL_law_718 2 rfl ?_
  refine r_aload_n C dL_law_719 3 rfl ?_
  refine r_iload_n C dL_law_720 0 rfl ?_
  refine r_iconst C dL_law_721 ic_1 ?_
  refine r_iadd C dL_law_722 ?_
  refine r_xld (q := 6 * j + 1) hX hbl hbA C dL_law_723 (nI_add (6 * j) 1) (by omega) hL ?_
  refine r_callV (G := (c, s, sh, R)) (a := 0) (As := [.int (xs (6 * j + 1))]) (rest := []) C mlL_80 dL_law_724 (tX11_perform (l := Z.1.2.1) (w := zw Z) hY 5001 (xs (6 * j + 1)) e1) rfl rfl (ly0 hY) rfl (by rw [hRm]; exact ⟨nle rfl, nle rfl⟩) (by rw [hRm]; exact ⟨hc, hs⟩) (nle rfl) ?_
  show Wm Z (c, s, sh, R) μ1 727 (LV Z b (6 * j)) [.int r]
  refine r_aload_n C dL_law_727 1 rfl ?_
  refine r_aload_n C dL_law_728 3 rfl ?_
  refine r_iload_n C dL_law_729 0 rfl ?_
  refine r_iconst C dL_law_730 ic_1 ?_
  refine r_iadd C dL_law_731 ?_
  refine r_xld (q := 6 * j + 1) hX hbl hbA C dL_law_732 (nI_add (6 * j) 1) (by omega) hL ?_
  refine r_callV (G := (c, s, sh, R)) (a := 139) (As := [.int (xs (6 * j + 1))]) (rest := [.int r]) C mlL_83 dL_law_733 (tX12_perform (l := Z.1.2.1) (w := zw Z) hY 5001 (xs (6 * j + 1)) e2) rfl rfl (ly139 hY) rfl (by rw [hRm]; exact ⟨nle rfl, nle rfl⟩) (by rw [hRm]; exact ⟨hc, hs⟩) (nle rfl) ?_
  show Wm Z (c, s, sh, R) μ2 736 (LV Z b (6 * j)) [.int r, .int r]
  refine r_icmp_eq 1735 C dL_law_736 (by decide) (fun _ => ?_) (fun c => absurd rfl c)
  exact kk _ _ sh R μ2 (by omega) (by omega) e3 hY
set_option maxRecDepth 100000 in
set_option maxHeartbeats 4000000 in
theorem lc17 {Z : ZC} {b L j c s : Nat} {xs : Nat → Int32} {sh : List Sh} {R : Rf} {μ : Mu} (hW : LW Z b L xs) (hI : INV j sh R μ) (hY : LY sh R) (hq : 6 * j + 6 ≤ L) (hc : c + 19 ≤ 600000) (hs : s + 1107 ≤ 7302250) (kk : LN Z b j c s) : Wm Z (c, s, sh, R) μ 741 (LV Z b (6 * j)) [] := by
  obtain ⟨C, hRm, hX, hbl, hbA, hL⟩ := hW
  have hk : j < 512 := by omega
  have hc : c + 0 ≤ 600000 := by omega
  have hs : s + 0 ≤ 7302250 := by omega
  obtain ⟨r, μ1, μ2, e1, e2, e3⟩ := m_days (n := 5001) (k := j) (x := (xs (6 * j + 1))) (y := (xs (6 * j + 2))) hI hk (by decide)
  refine r_aload_n C dL_law_741 2 rfl ?_
  refine r_aload_n C dL_law_742 3 rfl ?_
  refine r_iload_n C dL_law_743 0 rfl ?_
  refine r_iconst C dL_law_744 ic_1 ?_
  refine r_iadd C dL_law_745 ?_
  refine r_xld (q := 6 * j + 1) hX hbl hbA C dL_law_746 (nI_add (6 * j) 1) (by omega) hL ?_
  refine r_aload_n C dL_law_747 3 rfl ?_
  refine r_iload_n C dL_law_748 0 rfl ?_
  refine r_iconst C dL_law_749 ic_2 ?_
  refine r_iadd C dL_law_750 ?_
  refine r_xld (q := 6 * j + 2) hX hbl hbA C dL_law_751 (nI_add (6 * j) 2) (by omega) hL ?_
  refine r_callV (G := (c, s, sh, R)) (a := 0) (As := [.int (xs (6 * j + 1)), .int (xs (6 * j + 2))]) (rest := []) C mlL_84 dL_law_752 (tX11_days (l := Z.1.2.1) (w := zw Z) hY 5001 (xs (6 * j + 1)) (xs (6 * j + 2)) e1) rfl rfl (ly0 hY) rfl (by rw [hRm]; exact ⟨nle rfl, nle rfl⟩) (by rw [hRm]; exact ⟨hc, hs⟩) (nle rfl) ?_
  show Wm Z (c, s, sh, R) μ1 755 (LV Z b (6 * j)) [.int r]
  refine r_aload_n C dL_law_755 1 rfl ?_
  refine r_aload_n C dL_law_756 3 rfl ?_
  refine r_iload_n C dL_law_757 0 rfl ?_
  refine r_iconst C dL_law_758 ic_1 ?_
  refine r_iadd C dL_law_759 ?_
  refine r_xld (q := 6 * j + 1) hX hbl hbA C dL_law_760 (nI_add (6 * j) 1) (by omega) hL ?_
  refine r_aload_n C dL_law_761 3 rfl ?_
  refine r_iload_n C dL_law_762 0 rfl ?_
  refine r_iconst C dL_law_763 ic_2 ?_
  refine r_iadd C dL_law_764 ?_
  refine r_xld (q := 6 * j + 2) hX hbl hbA C dL_law_765 (nI_add (6 * j) 2) (by omega) hL ?_
  refine r_callV (G := (c, s, sh, R)) (a := 139) (As := [.int (xs (6 * j + 1)), .int (xs (6 * j + 2))]) (rest := [.int r]) C mlL_87 dL_law_766 (tX12_days (l := Z.1.2.1) (w := zw Z) hY 5001 (xs (6 * j + 1)) (xs (6 * j + 2)) e2) rfl rfl (ly139 hY) rfl (by rw [hRm]; exact ⟨nle rfl, nle rfl⟩) (by rw [hRm]; exact ⟨hc, hs⟩) (nle rfl) ?_
  show Wm Z (c, s, sh, R) μ2 769 (LV Z b (6 * j)) [.int r, .int r]
  refine r_icmp_eq 1735 C dL_law_769 (by decide) (fun _ => ?_) (fun c => absurd rfl c)
  exact kk _ _ sh R μ2 (by omega) (by omega) e3 hY
set_option maxRecDepth 100000 in
set_option maxHeartbeats 4000000 in
theorem lc18 {Z : ZC} {b L j c s : Nat} {xs : Nat → Int32} {sh : List Sh} {R : Rf} {μ : Mu} (hW : LW Z b L xs) (hI : INV j sh R μ) (hY : LY sh R) (hq : 6 * j + 6 ≤ L) (hc : c + 19 ≤ 600000) (hs : s + 1107 ≤ 7302250) (kk : LN Z b j c s) : Wm Z (c, s, sh, R) μ 774 (LV Z b (6 * j)) [] := by
  obtain ⟨C, hRm, hX, hbl, hbA, hL⟩ := hW
  have hk : j < 512 := by omega
  have hc : c + 0 ≤ 600000 := by omega
  have hs : s + 0 ≤ 7302250 := by omega
  obtain ⟨r, μ1, μ2, e1, e2, e3⟩ := m_comesIn (n := 5001) (k := j) (x := (xs (6 * j + 1))) (y := (xs (6 * j + 2))) hI hk (by decide)
  refine r_aload_n C dL_law_774 2 rfl ?_
  refine r_aload_n C dL_law_775 3 rfl ?_
  refine r_iload_n C dL_law_776 0 rfl ?_
  refine r_iconst C dL_law_777 ic_1 ?_
  refine r_iadd C dL_law_778 ?_
  refine r_xld (q := 6 * j + 1) hX hbl hbA C dL_law_779 (nI_add (6 * j) 1) (by omega) hL ?_
  refine r_aload_n C dL_law_780 3 rfl ?_
  refine r_iload_n C dL_law_781 0 rfl ?_
  refine r_iconst C dL_law_782 ic_2 ?_
  refine r_iadd C dL_law_783 ?_
  refine r_xld (q := 6 * j + 2) hX hbl hbA C dL_law_784 (nI_add (6 * j) 2) (by omega) hL ?_
  refine r_callV (G := (c, s, sh, R)) (a := 0) (As := [.int (xs (6 * j + 1)), .int (xs (6 * j + 2))]) (rest := []) C mlL_88 dL_law_785 (tX11_comesIn (l := Z.1.2.1) (w := zw Z) hY 5001 (xs (6 * j + 1)) (xs (6 * j + 2)) e1) rfl rfl (ly0 hY) rfl (by rw [hRm]; exact ⟨nle rfl, nle rfl⟩) (by rw [hRm]; exact ⟨hc, hs⟩) (nle rfl) ?_
  show Wm Z (c, s, sh, R) μ1 788 (LV Z b (6 * j)) [.int r]
  refine r_aload_n C dL_law_788 1 rfl ?_
  refine r_aload_n C dL_law_789 3 rfl ?_
  refine r_iload_n C dL_law_790 0 rfl ?_
  refine r_iconst C dL_law_791 ic_1 ?_
  refine r_iadd C dL_law_792 ?_
  refine r_xld (q := 6 * j + 1) hX hbl hbA C dL_law_793 (nI_add (6 * j) 1) (by omega) hL ?_
  refine r_aload_n C dL_law_794 3 rfl ?_
  refine r_iload_n C dL_law_795 0 rfl ?_
  refine r_iconst C dL_law_796 ic_2 ?_
  refine r_iadd C dL_law_797 ?_
  refine r_xld (q := 6 * j + 2) hX hbl hbA C dL_law_798 (nI_add (6 * j) 2) (by omega) hL ?_
  refine r_callV (G := (c, s, sh, R)) (a := 139) (As := [.int (xs (6 * j + 1)), .int (xs (6 * j + 2))]) (rest := [.int r]) C mlL_91 dL_law_799 (tX12_comesIn (l := Z.1.2.1) (w := zw Z) hY 5001 (xs (6 * j + 1)) (xs (6 * j + 2)) e2) rfl rfl (ly139 hY) rfl (by rw [hRm]; exact ⟨nle rfl, nle rfl⟩) (by rw [hRm]; exact ⟨hc, hs⟩) (nle rfl) ?_
  show Wm Z (c, s, sh, R) μ2 802 (LV Z b (6 * j)) [.int r, .int r]
  refine r_icmp_eq 1735 C dL_law_802 (by decide) (fun _ => ?_) (fun c => absurd rfl c)
  exact kk _ _ sh R μ2 (by omega) (by omega) e3 hY
set_option maxRecDepth 100000 in
set_option maxHeartbeats 4000000 in
theorem lc19 {Z : ZC} {b L j c s : Nat} {xs : Nat → Int32} {sh : List Sh} {R : Rf} {μ : Mu} (hW : LW Z b L xs) (hI : INV j sh R μ) (hY : LY sh R) (hq : 6 * j + 6 ≤ L) (hc : c + 19 ≤ 600000) (hs : s + 1107 ≤ 7302250) (kk : LN Z b j c s) : Wm Z (c, s, sh, R) μ 807 (LV Z b (6 * j)) [] := by
  obtain ⟨C, hRm, hX, hbl, hbA, hL⟩ := hW
  have hk : j < 512 := by omega
  have hc : c + 0 ≤ 600000 := by omega
  have hs : s + 0 ≤ 7302250 := by omega
  obtain ⟨r, μ1, μ2, e1, e2, e3⟩ := m_hearsIn (n := 5001) (k := j) (x := (xs (6 * j + 1))) (y := (xs (6 * j + 2))) hI hk (by decide)
  refine r_aload_n C dL_law_807 2 rfl ?_
  refine r_aload_n C dL_law_808 3 rfl ?_
  refine r_iload_n C dL_law_809 0 rfl ?_
  refine r_iconst C dL_law_810 ic_1 ?_
  refine r_iadd C dL_law_811 ?_
  refine r_xld (q := 6 * j + 1) hX hbl hbA C dL_law_812 (nI_add (6 * j) 1) (by omega) hL ?_
  refine r_aload_n C dL_law_813 3 rfl ?_
  refine r_iload_n C dL_law_814 0 rfl ?_
  refine r_iconst C dL_law_815 ic_2 ?_
  refine r_iadd C dL_law_816 ?_
  refine r_xld (q := 6 * j + 2) hX hbl hbA C dL_law_817 (nI_add (6 * j) 2) (by omega) hL ?_
  refine r_callV (G := (c, s, sh, R)) (a := 0) (As := [.int (xs (6 * j + 1)), .int (xs (6 * j + 2))]) (rest := []) C mlL_92 dL_law_818 (tX11_hearsIn (l := Z.1.2.1) (w := zw Z) hY 5001 (xs (6 * j + 1)) (xs (6 * j + 2)) e1) rfl rfl (ly0 hY) rfl (by rw [hRm]; exact ⟨nle rfl, nle rfl⟩) (by rw [hRm]; exact ⟨hc, hs⟩) (nle rfl) ?_
  show Wm Z (c, s, sh, R) μ1 821 (LV Z b (6 * j)) [.int r]
  refine r_aload_n C dL_law_821 1 rfl ?_
  refine r_aload_n C dL_law_822 3 rfl ?_
  refine r_iload_n C dL_law_823 0 rfl ?_
  refine r_iconst C dL_law_824 ic_1 ?_
  refine r_iadd C dL_law_825 ?_
  refine r_xld (q := 6 * j + 1) hX hbl hbA C dL_law_826 (nI_add (6 * j) 1) (by omega) hL ?_
  refine r_aload_n C dL_law_827 3 rfl ?_
  refine r_iload_n C dL_law_828 0 rfl ?_
  refine r_iconst C dL_law_829 ic_2 ?_
  refine r_iadd C dL_law_830 ?_
  refine r_xld (q := 6 * j + 2) hX hbl hbA C dL_law_831 (nI_add (6 * j) 2) (by omega) hL ?_
  refine r_callV (G := (c, s, sh, R)) (a := 139) (As := [.int (xs (6 * j + 1)), .int (xs (6 * j + 2))]) (rest := [.int r]) C mlL_95 dL_law_832 (tX12_hearsIn (l := Z.1.2.1) (w := zw Z) hY 5001 (xs (6 * j + 1)) (xs (6 * j + 2)) e2) rfl rfl (ly139 hY) rfl (by rw [hRm]; exact ⟨nle rfl, nle rfl⟩) (by rw [hRm]; exact ⟨hc, hs⟩) (nle rfl) ?_
  show Wm Z (c, s, sh, R) μ2 835 (LV Z b (6 * j)) [.int r, .int r]
  refine r_icmp_eq 1735 C dL_law_835 (by decide) (fun _ => ?_) (fun c => absurd rfl c)
  exact kk _ _ sh R μ2 (by omega) (by omega) e3 hY
set_option maxRecDepth 100000 in
set_option maxHeartbeats 4000000 in
theorem lc20 {Z : ZC} {b L j c s : Nat} {xs : Nat → Int32} {sh : List Sh} {R : Rf} {μ : Mu} (hW : LW Z b L xs) (hI : INV j sh R μ) (hY : LY sh R) (hq : 6 * j + 6 ≤ L) (hc : c + 19 ≤ 600000) (hs : s + 1107 ≤ 7302250) (kk : LN Z b j c s) : Wm Z (c, s, sh, R) μ 840 (LV Z b (6 * j)) [] := by
  obtain ⟨C, hRm, hX, hbl, hbA, hL⟩ := hW
  have hk : j < 512 := by omega
  have hc : c + 0 ≤ 600000 := by omega
  have hs : s + 0 ≤ 7302250 := by omega
  obtain ⟨r, μ1, μ2, e1, e2, e3⟩ := m_heard (n := 5001) (k := j) (x := (xs (6 * j + 1))) (y := (xs (6 * j + 2))) hI hk (by decide)
  refine r_aload_n C dL_law_840 2 rfl ?_
  refine r_aload_n C dL_law_841 3 rfl ?_
  refine r_iload_n C dL_law_842 0 rfl ?_
  refine r_iconst C dL_law_843 ic_1 ?_
  refine r_iadd C dL_law_844 ?_
  refine r_xld (q := 6 * j + 1) hX hbl hbA C dL_law_845 (nI_add (6 * j) 1) (by omega) hL ?_
  refine r_aload_n C dL_law_846 3 rfl ?_
  refine r_iload_n C dL_law_847 0 rfl ?_
  refine r_iconst C dL_law_848 ic_2 ?_
  refine r_iadd C dL_law_849 ?_
  refine r_xld (q := 6 * j + 2) hX hbl hbA C dL_law_850 (nI_add (6 * j) 2) (by omega) hL ?_
  refine r_callV (G := (c, s, sh, R)) (a := 0) (As := [.int (xs (6 * j + 1)), .int (xs (6 * j + 2))]) (rest := []) C mlL_96 dL_law_851 (tX11_heard (l := Z.1.2.1) (w := zw Z) hY 5001 (xs (6 * j + 1)) (xs (6 * j + 2)) e1) rfl rfl (ly0 hY) rfl (by rw [hRm]; exact ⟨nle rfl, nle rfl⟩) (by rw [hRm]; exact ⟨hc, hs⟩) (nle rfl) ?_
  show Wm Z (c, s, sh, R) μ1 854 (LV Z b (6 * j)) [.int r]
  refine r_aload_n C dL_law_854 1 rfl ?_
  refine r_aload_n C dL_law_855 3 rfl ?_
  refine r_iload_n C dL_law_856 0 rfl ?_
  refine r_iconst C dL_law_857 ic_1 ?_
  refine r_iadd C dL_law_858 ?_
  refine r_xld (q := 6 * j + 1) hX hbl hbA C dL_law_859 (nI_add (6 * j) 1) (by omega) hL ?_
  refine r_aload_n C dL_law_860 3 rfl ?_
  refine r_iload_n C dL_law_861 0 rfl ?_
  refine r_iconst C dL_law_862 ic_2 ?_
  refine r_iadd C dL_law_863 ?_
  refine r_xld (q := 6 * j + 2) hX hbl hbA C dL_law_864 (nI_add (6 * j) 2) (by omega) hL ?_
  refine r_callV (G := (c, s, sh, R)) (a := 139) (As := [.int (xs (6 * j + 1)), .int (xs (6 * j + 2))]) (rest := [.int r]) C mlL_99 dL_law_865 (tX12_heard (l := Z.1.2.1) (w := zw Z) hY 5001 (xs (6 * j + 1)) (xs (6 * j + 2)) e2) rfl rfl (ly139 hY) rfl (by rw [hRm]; exact ⟨nle rfl, nle rfl⟩) (by rw [hRm]; exact ⟨hc, hs⟩) (nle rfl) ?_
  show Wm Z (c, s, sh, R) μ2 868 (LV Z b (6 * j)) [.int r, .int r]
  refine r_icmp_eq 1735 C dL_law_868 (by decide) (fun _ => ?_) (fun c => absurd rfl c)
  exact kk _ _ sh R μ2 (by omega) (by omega) e3 hY
set_option maxRecDepth 100000 in
set_option maxHeartbeats 4000000 in
theorem lc21 {Z : ZC} {b L j c s : Nat} {xs : Nat → Int32} {sh : List Sh} {R : Rf} {μ : Mu} (hW : LW Z b L xs) (hI : INV j sh R μ) (hY : LY sh R) (hq : 6 * j + 6 ≤ L) (hc : c + 19 ≤ 600000) (hs : s + 1107 ≤ 7302250) (kk : LN Z b j c s) : Wm Z (c, s, sh, R) μ 873 (LV Z b (6 * j)) [] := by
  obtain ⟨C, hRm, hX, hbl, hbA, hL⟩ := hW
  have hk : j < 512 := by omega
  have hc : c + 0 ≤ 600000 := by omega
  have hs : s + 0 ≤ 7302250 := by omega
  obtain ⟨r, μ1, μ2, e1, e2, e3⟩ := m_loudest (n := 5001) (k := j) (x := (xs (6 * j + 1))) hI hk (by decide)
  refine r_aload_n C dL_law_873 2 rfl ?_
  refine r_aload_n C dL_law_874 3 rfl ?_
  refine r_iload_n C dL_law_875 0 rfl ?_
  refine r_iconst C dL_law_876 ic_1 ?_
  refine r_iadd C dL_law_877 ?_
  refine r_xld (q := 6 * j + 1) hX hbl hbA C dL_law_878 (nI_add (6 * j) 1) (by omega) hL ?_
  refine r_callV (G := (c, s, sh, R)) (a := 0) (As := [.int (xs (6 * j + 1))]) (rest := []) C mlL_100 dL_law_879 (tX11_loudest (l := Z.1.2.1) (w := zw Z) hY 5001 (xs (6 * j + 1)) e1) rfl rfl (ly0 hY) rfl (by rw [hRm]; exact ⟨nle rfl, nle rfl⟩) (by rw [hRm]; exact ⟨hc, hs⟩) (nle rfl) ?_
  show Wm Z (c, s, sh, R) μ1 882 (LV Z b (6 * j)) [.int r]
  refine r_aload_n C dL_law_882 1 rfl ?_
  refine r_aload_n C dL_law_883 3 rfl ?_
  refine r_iload_n C dL_law_884 0 rfl ?_
  refine r_iconst C dL_law_885 ic_1 ?_
  refine r_iadd C dL_law_886 ?_
  refine r_xld (q := 6 * j + 1) hX hbl hbA C dL_law_887 (nI_add (6 * j) 1) (by omega) hL ?_
  refine r_callV (G := (c, s, sh, R)) (a := 139) (As := [.int (xs (6 * j + 1))]) (rest := [.int r]) C mlL_103 dL_law_888 (tX12_loudest (l := Z.1.2.1) (w := zw Z) hY 5001 (xs (6 * j + 1)) e2) rfl rfl (ly139 hY) rfl (by rw [hRm]; exact ⟨nle rfl, nle rfl⟩) (by rw [hRm]; exact ⟨hc, hs⟩) (nle rfl) ?_
  show Wm Z (c, s, sh, R) μ2 891 (LV Z b (6 * j)) [.int r, .int r]
  refine r_icmp_eq 1735 C dL_law_891 (by decide) (fun _ => ?_) (fun c => absurd rfl c)
  exact kk _ _ sh R μ2 (by omega) (by omega) e3 hY
set_option maxRecDepth 100000 in
set_option maxHeartbeats 4000000 in
theorem lc22 {Z : ZC} {b L j c s : Nat} {xs : Nat → Int32} {sh : List Sh} {R : Rf} {μ : Mu} (hW : LW Z b L xs) (hI : INV j sh R μ) (hY : LY sh R) (hq : 6 * j + 6 ≤ L) (hc : c + 19 ≤ 600000) (hs : s + 1107 ≤ 7302250) (kk : LN Z b j c s) : Wm Z (c, s, sh, R) μ 896 (LV Z b (6 * j)) [] := by
  obtain ⟨C, hRm, hX, hbl, hbA, hL⟩ := hW
  have hk : j < 512 := by omega
  have hc : c + 0 ≤ 600000 := by omega
  have hs : s + 0 ≤ 7302250 := by omega
  obtain ⟨r, μ1, μ2, e1, e2, e3⟩ := m_hearers (n := 5001) (k := j) (x := (xs (6 * j + 1))) (y := (xs (6 * j + 2))) (z := (xs (6 * j + 3))) hI hk (by decide)
  refine r_aload_n C dL_law_896 2 rfl ?_
  refine r_aload_n C dL_law_897 3 rfl ?_
  refine r_iload_n C dL_law_898 0 rfl ?_
  refine r_iconst C dL_law_899 ic_1 ?_
  refine r_iadd C dL_law_900 ?_
  refine r_xld (q := 6 * j + 1) hX hbl hbA C dL_law_901 (nI_add (6 * j) 1) (by omega) hL ?_
  refine r_aload_n C dL_law_902 3 rfl ?_
  refine r_iload_n C dL_law_903 0 rfl ?_
  refine r_iconst C dL_law_904 ic_2 ?_
  refine r_iadd C dL_law_905 ?_
  refine r_xld (q := 6 * j + 2) hX hbl hbA C dL_law_906 (nI_add (6 * j) 2) (by omega) hL ?_
  refine r_aload_n C dL_law_907 3 rfl ?_
  refine r_iload_n C dL_law_908 0 rfl ?_
  refine r_iconst C dL_law_909 ic_3 ?_
  refine r_iadd C dL_law_910 ?_
  refine r_xld (q := 6 * j + 3) hX hbl hbA C dL_law_911 (nI_add (6 * j) 3) (by omega) hL ?_
  refine r_callV (G := (c, s, sh, R)) (a := 0) (As := [.int (xs (6 * j + 1)), .int (xs (6 * j + 2)), .int (xs (6 * j + 3))]) (rest := []) C mlL_104 dL_law_912 (tX11_hearers (l := Z.1.2.1) (w := zw Z) hY 5001 (xs (6 * j + 1)) (xs (6 * j + 2)) (xs (6 * j + 3)) e1) rfl rfl (ly0 hY) rfl (by rw [hRm]; exact ⟨nle rfl, nle rfl⟩) (by rw [hRm]; exact ⟨hc, hs⟩) (nle rfl) ?_
  show Wm Z (c, s, sh, R) μ1 915 (LV Z b (6 * j)) [.int r]
  refine r_aload_n C dL_law_915 1 rfl ?_
  refine r_aload_n C dL_law_916 3 rfl ?_
  refine r_iload_n C dL_law_917 0 rfl ?_
  refine r_iconst C dL_law_918 ic_1 ?_
  refine r_iadd C dL_law_919 ?_
  refine r_xld (q := 6 * j + 1) hX hbl hbA C dL_law_920 (nI_add (6 * j) 1) (by omega) hL ?_
  refine r_aload_n C dL_law_921 3 rfl ?_
  refine r_iload_n C dL_law_922 0 rfl ?_
  refine r_iconst C dL_law_923 ic_2 ?_
  refine r_iadd C dL_law_924 ?_
  refine r_xld (q := 6 * j + 2) hX hbl hbA C dL_law_925 (nI_add (6 * j) 2) (by omega) hL ?_
  refine r_aload_n C dL_law_926 3 rfl ?_
  refine r_iload_n C dL_law_927 0 rfl ?_
  refine r_iconst C dL_law_928 ic_3 ?_
  refine r_iadd C dL_law_929 ?_
  refine r_xld (q := 6 * j + 3) hX hbl hbA C dL_law_930 (nI_add (6 * j) 3) (by omega) hL ?_
  refine r_callV (G := (c, s, sh, R)) (a := 139) (As := [.int (xs (6 * j + 1)), .int (xs (6 * j + 2)), .int (xs (6 * j + 3))]) (rest := [.int r]) C mlL_108 dL_law_931 (tX12_hearers (l := Z.1.2.1) (w := zw Z) hY 5001 (xs (6 * j + 1)) (xs (6 * j + 2)) (xs (6 * j + 3)) e2) rfl rfl (ly139 hY) rfl (by rw [hRm]; exact ⟨nle rfl, nle rfl⟩) (by rw [hRm]; exact ⟨hc, hs⟩) (nle rfl) ?_
  show Wm Z (c, s, sh, R) μ2 934 (LV Z b (6 * j)) [.int r, .int r]
  refine r_icmp_eq 1735 C dL_law_934 (by decide) (fun _ => ?_) (fun c => absurd rfl c)
  exact kk _ _ sh R μ2 (by omega) (by omega) e3 hY
set_option maxRecDepth 100000 in
set_option maxHeartbeats 4000000 in
theorem lc23 {Z : ZC} {b L j c s : Nat} {xs : Nat → Int32} {sh : List Sh} {R : Rf} {μ : Mu} (hW : LW Z b L xs) (hI : INV j sh R μ) (hY : LY sh R) (hq : 6 * j + 6 ≤ L) (hc : c + 19 ≤ 600000) (hs : s + 1107 ≤ 7302250) (kk : LN Z b j c s) : Wm Z (c, s, sh, R) μ 939 (LV Z b (6 * j)) [] := by
  obtain ⟨C, hRm, hX, hbl, hbA, hL⟩ := hW
  have hk : j < 512 := by omega
  have hc : c + 0 ≤ 600000 := by omega
  have hs : s + 0 ≤ 7302250 := by omega
  obtain ⟨r, μ1, μ2, e1, e2, e3⟩ := m_far (n := 5001) (k := j) (x := (xs (6 * j + 1))) (y := (xs (6 * j + 2))) hI hk (by decide)
  refine r_aload_n C dL_law_939 2 rfl ?_
  refine r_aload_n C dL_law_940 3 rfl ?_
  refine r_iload_n C dL_law_941 0 rfl ?_
  refine r_iconst C dL_law_942 ic_1 ?_
  refine r_iadd C dL_law_943 ?_
  refine r_xld (q := 6 * j + 1) hX hbl hbA C dL_law_944 (nI_add (6 * j) 1) (by omega) hL ?_
  refine r_aload_n C dL_law_945 3 rfl ?_
  refine r_iload_n C dL_law_946 0 rfl ?_
  refine r_iconst C dL_law_947 ic_2 ?_
  refine r_iadd C dL_law_948 ?_
  refine r_xld (q := 6 * j + 2) hX hbl hbA C dL_law_949 (nI_add (6 * j) 2) (by omega) hL ?_
  refine r_callV (G := (c, s, sh, R)) (a := 0) (As := [.int (xs (6 * j + 1)), .int (xs (6 * j + 2))]) (rest := []) C mlL_109 dL_law_950 (tX11_far (l := Z.1.2.1) (w := zw Z) hY 5001 (xs (6 * j + 1)) (xs (6 * j + 2)) e1) rfl rfl (ly0 hY) rfl (by rw [hRm]; exact ⟨nle rfl, nle rfl⟩) (by rw [hRm]; exact ⟨hc, hs⟩) (nle rfl) ?_
  show Wm Z (c, s, sh, R) μ1 953 (LV Z b (6 * j)) [.int r]
  refine r_aload_n C dL_law_953 1 rfl ?_
  refine r_aload_n C dL_law_954 3 rfl ?_
  refine r_iload_n C dL_law_955 0 rfl ?_
  refine r_iconst C dL_law_956 ic_1 ?_
  refine r_iadd C dL_law_957 ?_
  refine r_xld (q := 6 * j + 1) hX hbl hbA C dL_law_958 (nI_add (6 * j) 1) (by omega) hL ?_
  refine r_aload_n C dL_law_959 3 rfl ?_
  refine r_iload_n C dL_law_960 0 rfl ?_
  refine r_iconst C dL_law_961 ic_2 ?_
  refine r_iadd C dL_law_962 ?_
  refine r_xld (q := 6 * j + 2) hX hbl hbA C dL_law_963 (nI_add (6 * j) 2) (by omega) hL ?_
  refine r_callV (G := (c, s, sh, R)) (a := 139) (As := [.int (xs (6 * j + 1)), .int (xs (6 * j + 2))]) (rest := [.int r]) C mlL_112 dL_law_964 (tX12_far (l := Z.1.2.1) (w := zw Z) hY 5001 (xs (6 * j + 1)) (xs (6 * j + 2)) e2) rfl rfl (ly139 hY) rfl (by rw [hRm]; exact ⟨nle rfl, nle rfl⟩) (by rw [hRm]; exact ⟨hc, hs⟩) (nle rfl) ?_
  show Wm Z (c, s, sh, R) μ2 967 (LV Z b (6 * j)) [.int r, .int r]
  refine r_icmp_eq 1735 C dL_law_967 (by decide) (fun _ => ?_) (fun c => absurd rfl c)
  exact kk _ _ sh R μ2 (by omega) (by omega) e3 hY
set_option maxRecDepth 100000 in
set_option maxHeartbeats 4000000 in
theorem lc24 {Z : ZC} {b L j c s : Nat} {xs : Nat → Int32} {sh : List Sh} {R : Rf} {μ : Mu} (hW : LW Z b L xs) (hI : INV j sh R μ) (hY : LY sh R) (hq : 6 * j + 6 ≤ L) (hc : c + 19 ≤ 600000) (hs : s + 1107 ≤ 7302250) (kk : LN Z b j c s) : Wm Z (c, s, sh, R) μ 972 (LV Z b (6 * j)) [] := by
  obtain ⟨C, hRm, hX, hbl, hbA, hL⟩ := hW
  have hk : j < 512 := by omega
  have hc : c + 0 ≤ 600000 := by omega
  have hs : s + 0 ≤ 7302250 := by omega
  obtain ⟨r, μ1, μ2, e1, e2, e3⟩ := m_reaches (n := 5001) (k := j) (x := (xs (6 * j + 1))) (y := (xs (6 * j + 2))) hI hk (by decide)
  refine r_aload_n C dL_law_972 2 rfl ?_
  refine r_aload_n C dL_law_973 3 rfl ?_
  refine r_iload_n C dL_law_974 0 rfl ?_
  refine r_iconst C dL_law_975 ic_1 ?_
  refine r_iadd C dL_law_976 ?_
  refine r_xld (q := 6 * j + 1) hX hbl hbA C dL_law_977 (nI_add (6 * j) 1) (by omega) hL ?_
  refine r_aload_n C dL_law_978 3 rfl ?_
  refine r_iload_n C dL_law_979 0 rfl ?_
  refine r_iconst C dL_law_980 ic_2 ?_
  refine r_iadd C dL_law_981 ?_
  refine r_xld (q := 6 * j + 2) hX hbl hbA C dL_law_982 (nI_add (6 * j) 2) (by omega) hL ?_
  refine r_callV (G := (c, s, sh, R)) (a := 0) (As := [.int (xs (6 * j + 1)), .int (xs (6 * j + 2))]) (rest := []) C mlL_113 dL_law_983 (tX11_reaches (l := Z.1.2.1) (w := zw Z) hY 5001 (xs (6 * j + 1)) (xs (6 * j + 2)) e1) rfl rfl (ly0 hY) rfl (by rw [hRm]; exact ⟨nle rfl, nle rfl⟩) (by rw [hRm]; exact ⟨hc, hs⟩) (nle rfl) ?_
  show Wm Z (c, s, sh, R) μ1 986 (LV Z b (6 * j)) [.int r]
  refine r_aload_n C dL_law_986 1 rfl ?_
  refine r_aload_n C dL_law_987 3 rfl ?_
  refine r_iload_n C dL_law_988 0 rfl ?_
  refine r_iconst C dL_law_989 ic_1 ?_
  refine r_iadd C dL_law_990 ?_
  refine r_xld (q := 6 * j + 1) hX hbl hbA C dL_law_991 (nI_add (6 * j) 1) (by omega) hL ?_
  refine r_aload_n C dL_law_992 3 rfl ?_
  refine r_iload_n C dL_law_993 0 rfl ?_
  refine r_iconst C dL_law_994 ic_2 ?_
  refine r_iadd C dL_law_995 ?_
  refine r_xld (q := 6 * j + 2) hX hbl hbA C dL_law_996 (nI_add (6 * j) 2) (by omega) hL ?_
  refine r_callV (G := (c, s, sh, R)) (a := 139) (As := [.int (xs (6 * j + 1)), .int (xs (6 * j + 2))]) (rest := [.int r]) C mlL_116 dL_law_997 (tX12_reaches (l := Z.1.2.1) (w := zw Z) hY 5001 (xs (6 * j + 1)) (xs (6 * j + 2)) e2) rfl rfl (ly139 hY) rfl (by rw [hRm]; exact ⟨nle rfl, nle rfl⟩) (by rw [hRm]; exact ⟨hc, hs⟩) (nle rfl) ?_
  show Wm Z (c, s, sh, R) μ2 1000 (LV Z b (6 * j)) [.int r, .int r]
  refine r_icmp_eq 1735 C dL_law_1000 (by decide) (fun _ => ?_) (fun c => absurd rfl c)
  exact kk _ _ sh R μ2 (by omega) (by omega) e3 hY
set_option maxRecDepth 100000 in
set_option maxHeartbeats 4000000 in
theorem lc25 {Z : ZC} {b L j c s : Nat} {xs : Nat → Int32} {sh : List Sh} {R : Rf} {μ : Mu} (hW : LW Z b L xs) (hI : INV j sh R μ) (hY : LY sh R) (hq : 6 * j + 6 ≤ L) (hc : c + 19 ≤ 600000) (hs : s + 1107 ≤ 7302250) (kk : LN Z b j c s) : Wm Z (c, s, sh, R) μ 1005 (LV Z b (6 * j)) [] := by
  obtain ⟨C, hRm, hX, hbl, hbA, hL⟩ := hW
  have hk : j < 512 := by omega
  have hc : c + 0 ≤ 600000 := by omega
  have hs : s + 0 ≤ 7302250 := by omega
  obtain ⟨r, μ1, μ2, e1, e2, e3⟩ := m_secret (n := 5001) (k := j) (x := (xs (6 * j + 1))) (y := (xs (6 * j + 2))) (z := (xs (6 * j + 3))) hI hk (by decide)
  refine r_aload_n C dL_law_1005 2 rfl ?_
  refine r_aload_n C dL_law_1006 3 rfl ?_
  refine r_iload_n C dL_law_1007 0 rfl ?_
  refine r_iconst C dL_law_1008 ic_1 ?_
  refine r_iadd C dL_law_1009 ?_
  refine r_xld (q := 6 * j + 1) hX hbl hbA C dL_law_1010 (nI_add (6 * j) 1) (by omega) hL ?_
  refine r_aload_n C dL_law_1011 3 rfl ?_
  refine r_iload_n C dL_law_1012 0 rfl ?_
  refine r_iconst C dL_law_1013 ic_2 ?_
  refine r_iadd C dL_law_1014 ?_
  refine r_xld (q := 6 * j + 2) hX hbl hbA C dL_law_1015 (nI_add (6 * j) 2) (by omega) hL ?_
  refine r_aload_n C dL_law_1016 3 rfl ?_
  refine r_iload_n C dL_law_1017 0 rfl ?_
  refine r_iconst C dL_law_1018 ic_3 ?_
  refine r_iadd C dL_law_1019 ?_
  refine r_xld (q := 6 * j + 3) hX hbl hbA C dL_law_1020 (nI_add (6 * j) 3) (by omega) hL ?_
  refine r_callV (G := (c, s, sh, R)) (a := 0) (As := [.int (xs (6 * j + 1)), .int (xs (6 * j + 2)), .int (xs (6 * j + 3))]) (rest := []) C mlL_117 dL_law_1021 (tX11_secret (l := Z.1.2.1) (w := zw Z) hY 5001 (xs (6 * j + 1)) (xs (6 * j + 2)) (xs (6 * j + 3)) e1) rfl rfl (ly0 hY) rfl (by rw [hRm]; exact ⟨nle rfl, nle rfl⟩) (by rw [hRm]; exact ⟨hc, hs⟩) (nle rfl) ?_
  show Wm Z (c, s, sh, R) μ1 1024 (LV Z b (6 * j)) [.int r]
  refine r_aload_n C dL_law_1024 1 rfl ?_
  refine r_aload_n C dL_law_1025 3 rfl ?_
  refine r_iload_n C dL_law_1026 0 rfl ?_
  refine r_iconst C dL_law_1027 ic_1 ?_
  refine r_iadd C dL_law_1028 ?_
  refine r_xld (q := 6 * j + 1) hX hbl hbA C dL_law_1029 (nI_add (6 * j) 1) (by omega) hL ?_
  refine r_aload_n C dL_law_1030 3 rfl ?_
  refine r_iload_n C dL_law_1031 0 rfl ?_
  refine r_iconst C dL_law_1032 ic_2 ?_
  refine r_iadd C dL_law_1033 ?_
  refine r_xld (q := 6 * j + 2) hX hbl hbA C dL_law_1034 (nI_add (6 * j) 2) (by omega) hL ?_
  refine r_aload_n C dL_law_1035 3 rfl ?_
  refine r_iload_n C dL_law_1036 0 rfl ?_
  refine r_iconst C dL_law_1037 ic_3 ?_
  refine r_iadd C dL_law_1038 ?_
  refine r_xld (q := 6 * j + 3) hX hbl hbA C dL_law_1039 (nI_add (6 * j) 3) (by omega) hL ?_
  refine r_callV (G := (c, s, sh, R)) (a := 139) (As := [.int (xs (6 * j + 1)), .int (xs (6 * j + 2)), .int (xs (6 * j + 3))]) (rest := [.int r]) C mlL_120 dL_law_1040 (tX12_secret (l := Z.1.2.1) (w := zw Z) hY 5001 (xs (6 * j + 1)) (xs (6 * j + 2)) (xs (6 * j + 3)) e2) rfl rfl (ly139 hY) rfl (by rw [hRm]; exact ⟨nle rfl, nle rfl⟩) (by rw [hRm]; exact ⟨hc, hs⟩) (nle rfl) ?_
  show Wm Z (c, s, sh, R) μ2 1043 (LV Z b (6 * j)) [.int r, .int r]
  refine r_icmp_eq 1735 C dL_law_1043 (by decide) (fun _ => ?_) (fun c => absurd rfl c)
  exact kk _ _ sh R μ2 (by omega) (by omega) e3 hY
set_option maxRecDepth 100000 in
set_option maxHeartbeats 4000000 in
theorem lc26 {Z : ZC} {b L j c s : Nat} {xs : Nat → Int32} {sh : List Sh} {R : Rf} {μ : Mu} (hW : LW Z b L xs) (hI : INV j sh R μ) (hY : LY sh R) (hq : 6 * j + 6 ≤ L) (hc : c + 19 ≤ 600000) (hs : s + 1107 ≤ 7302250) (kk : LN Z b j c s) : Wm Z (c, s, sh, R) μ 1048 (LV Z b (6 * j)) [] := by
  obtain ⟨C, hRm, hX, hbl, hbA, hL⟩ := hW
  have hk : j < 512 := by omega
  have hc : c + 0 ≤ 600000 := by omega
  have hs : s + 0 ≤ 7302250 := by omega
  obtain ⟨r, μ1, μ2, e1, e2, e3⟩ := m_widest (n := 5001) (k := j) (x := (xs (6 * j + 1))) hI hk (by decide)
  refine r_aload_n C dL_law_1048 2 rfl ?_
  refine r_aload_n C dL_law_1049 3 rfl ?_
  refine r_iload_n C dL_law_1050 0 rfl ?_
  refine r_iconst C dL_law_1051 ic_1 ?_
  refine r_iadd C dL_law_1052 ?_
  refine r_xld (q := 6 * j + 1) hX hbl hbA C dL_law_1053 (nI_add (6 * j) 1) (by omega) hL ?_
  refine r_callV (G := (c, s, sh, R)) (a := 0) (As := [.int (xs (6 * j + 1))]) (rest := []) C mlL_121 dL_law_1054 (tX11_widest (l := Z.1.2.1) (w := zw Z) hY 5001 (xs (6 * j + 1)) e1) rfl rfl (ly0 hY) rfl (by rw [hRm]; exact ⟨nle rfl, nle rfl⟩) (by rw [hRm]; exact ⟨hc, hs⟩) (nle rfl) ?_
  show Wm Z (c, s, sh, R) μ1 1057 (LV Z b (6 * j)) [.int r]
  refine r_aload_n C dL_law_1057 1 rfl ?_
  refine r_aload_n C dL_law_1058 3 rfl ?_
  refine r_iload_n C dL_law_1059 0 rfl ?_
  refine r_iconst C dL_law_1060 ic_1 ?_
  refine r_iadd C dL_law_1061 ?_
  refine r_xld (q := 6 * j + 1) hX hbl hbA C dL_law_1062 (nI_add (6 * j) 1) (by omega) hL ?_
  refine r_callV (G := (c, s, sh, R)) (a := 139) (As := [.int (xs (6 * j + 1))]) (rest := [.int r]) C mlL_124 dL_law_1063 (tX12_widest (l := Z.1.2.1) (w := zw Z) hY 5001 (xs (6 * j + 1)) e2) rfl rfl (ly139 hY) rfl (by rw [hRm]; exact ⟨nle rfl, nle rfl⟩) (by rw [hRm]; exact ⟨hc, hs⟩) (nle rfl) ?_
  show Wm Z (c, s, sh, R) μ2 1066 (LV Z b (6 * j)) [.int r, .int r]
  refine r_icmp_eq 1735 C dL_law_1066 (by decide) (fun _ => ?_) (fun c => absurd rfl c)
  exact kk _ _ sh R μ2 (by omega) (by omega) e3 hY
set_option maxRecDepth 100000 in
set_option maxHeartbeats 4000000 in
theorem lc27 {Z : ZC} {b L j c s : Nat} {xs : Nat → Int32} {sh : List Sh} {R : Rf} {μ : Mu} (hW : LW Z b L xs) (hI : INV j sh R μ) (hY : LY sh R) (hq : 6 * j + 6 ≤ L) (hc : c + 19 ≤ 600000) (hs : s + 1107 ≤ 7302250) (kk : LN Z b j c s) : Wm Z (c, s, sh, R) μ 1071 (LV Z b (6 * j)) [] := by
  obtain ⟨C, hRm, hX, hbl, hbA, hL⟩ := hW
  have hk : j < 512 := by omega
  have hc : c + 0 ≤ 600000 := by omega
  have hs : s + 0 ≤ 7302250 := by omega
  obtain ⟨r, μ1, μ2, e1, e2, e3⟩ := m_shut (n := 5001) (k := j) (x := (xs (6 * j + 1))) (y := (xs (6 * j + 2))) (u := (xs (6 * j + 3))) (z := (xs (6 * j + 4))) hI hk (by decide)
  refine r_aload_n C dL_law_1071 2 rfl ?_
  refine r_aload_n C dL_law_1072 3 rfl ?_
  refine r_iload_n C dL_law_1073 0 rfl ?_
  refine r_iconst C dL_law_1074 ic_1 ?_
  refine r_iadd C dL_law_1075 ?_
  refine r_xld (q := 6 * j + 1) hX hbl hbA C dL_law_1076 (nI_add (6 * j) 1) (by omega) hL ?_
  refine r_aload_n C dL_law_1077 3 rfl ?_
  refine r_iload_n C dL_law_1078 0 rfl ?_
  refine r_iconst C dL_law_1079 ic_2 ?_
  refine r_iadd C dL_law_1080 ?_
  refine r_xld (q := 6 * j + 2) hX hbl hbA C dL_law_1081 (nI_add (6 * j) 2) (by omega) hL ?_
  refine r_aload_n C dL_law_1082 3 rfl ?_
  refine r_iload_n C dL_law_1083 0 rfl ?_
  refine r_iconst C dL_law_1084 ic_3 ?_
  refine r_iadd C dL_law_1085 ?_
  refine r_xld (q := 6 * j + 3) hX hbl hbA C dL_law_1086 (nI_add (6 * j) 3) (by omega) hL ?_
  refine r_aload_n C dL_law_1087 3 rfl ?_
  refine r_iload_n C dL_law_1088 0 rfl ?_
  refine r_iconst C dL_law_1089 ic_4 ?_
  refine r_iadd C dL_law_1090 ?_
  refine r_xld (q := 6 * j + 4) hX hbl hbA C dL_law_1091 (nI_add (6 * j) 4) (by omega) hL ?_
  refine r_callV (G := (c, s, sh, R)) (a := 0) (As := [.int (xs (6 * j + 1)), .int (xs (6 * j + 2)), .int (xs (6 * j + 3)), .int (xs (6 * j + 4))]) (rest := []) C mlL_125 dL_law_1092 (tX11_shut (l := Z.1.2.1) (w := zw Z) hY 5001 (xs (6 * j + 1)) (xs (6 * j + 2)) (xs (6 * j + 3)) (xs (6 * j + 4)) e1) rfl rfl (ly0 hY) rfl (by rw [hRm]; exact ⟨nle rfl, nle rfl⟩) (by rw [hRm]; exact ⟨hc, hs⟩) (nle rfl) ?_
  show Wm Z (c, s, sh, R) μ1 1095 (LV Z b (6 * j)) [.int r]
  refine r_aload_n C dL_law_1095 1 rfl ?_
  refine r_aload_n C dL_law_1096 3 rfl ?_
  refine r_iload_n C dL_law_1097 0 rfl ?_
  refine r_iconst C dL_law_1098 ic_1 ?_
  refine r_iadd C dL_law_1099 ?_
  refine r_xld (q := 6 * j + 1) hX hbl hbA C dL_law_1100 (nI_add (6 * j) 1) (by omega) hL ?_
  refine r_aload_n C dL_law_1101 3 rfl ?_
  refine r_iload_n C dL_law_1102 0 rfl ?_
  refine r_iconst C dL_law_1103 ic_2 ?_
  refine r_iadd C dL_law_1104 ?_
  refine r_xld (q := 6 * j + 2) hX hbl hbA C dL_law_1105 (nI_add (6 * j) 2) (by omega) hL ?_
  refine r_aload_n C dL_law_1106 3 rfl ?_
  refine r_iload_n C dL_law_1107 0 rfl ?_
  refine r_iconst C dL_law_1108 ic_3 ?_
  refine r_iadd C dL_law_1109 ?_
  refine r_xld (q := 6 * j + 3) hX hbl hbA C dL_law_1110 (nI_add (6 * j) 3) (by omega) hL ?_
  refine r_aload_n C dL_law_1111 3 rfl ?_
  refine r_iload_n C dL_law_1112 0 rfl ?_
  refine r_iconst C dL_law_1113 ic_4 ?_
  refine r_iadd C dL_law_1114 ?_
  refine r_xld (q := 6 * j + 4) hX hbl hbA C dL_law_1115 (nI_add (6 * j) 4) (by omega) hL ?_
  refine r_callV (G := (c, s, sh, R)) (a := 139) (As := [.int (xs (6 * j + 1)), .int (xs (6 * j + 2)), .int (xs (6 * j + 3)), .int (xs (6 * j + 4))]) (rest := [.int r]) C mlL_129 dL_law_1116 (tX12_shut (l := Z.1.2.1) (w := zw Z) hY 5001 (xs (6 * j + 1)) (xs (6 * j + 2)) (xs (6 * j + 3)) (xs (6 * j + 4)) e2) rfl rfl (ly139 hY) rfl (by rw [hRm]; exact ⟨nle rfl, nle rfl⟩) (by rw [hRm]; exact ⟨hc, hs⟩) (nle rfl) ?_
  show Wm Z (c, s, sh, R) μ2 1119 (LV Z b (6 * j)) [.int r, .int r]
  refine r_icmp_eq 1735 C dL_law_1119 (by decide) (fun _ => ?_) (fun c => absurd rfl c)
  exact kk _ _ sh R μ2 (by omega) (by omega) e3 hY
set_option maxRecDepth 100000 in
set_option maxHeartbeats 4000000 in
theorem lc28 {Z : ZC} {b L j c s : Nat} {xs : Nat → Int32} {sh : List Sh} {R : Rf} {μ : Mu} (hW : LW Z b L xs) (hI : INV j sh R μ) (hY : LY sh R) (hq : 6 * j + 6 ≤ L) (hc : c + 19 ≤ 600000) (hs : s + 1107 ≤ 7302250) (kk : LN Z b j c s) : Wm Z (c, s, sh, R) μ 1124 (LV Z b (6 * j)) [] := by
  obtain ⟨C, hRm, hX, hbl, hbA, hL⟩ := hW
  have hk : j < 512 := by omega
  have hc : c + 0 ≤ 600000 := by omega
  have hs : s + 0 ≤ 7302250 := by omega
  obtain ⟨r, μ1, μ2, e1, e2, e3⟩ := m_take (n := 5001) (k := j) (x := (xs (6 * j + 1))) (y := (xs (6 * j + 2))) (u := (xs (6 * j + 3))) (z := (xs (6 * j + 4))) hI hk (by decide)
  refine r_aload_n C dL_law_1124 2 rfl ?_
  refine r_aload_n C dL_law_1125 3 rfl ?_
  refine r_iload_n C dL_law_1126 0 rfl ?_
  refine r_iconst C dL_law_1127 ic_1 ?_
  refine r_iadd C dL_law_1128 ?_
  refine r_xld (q := 6 * j + 1) hX hbl hbA C dL_law_1129 (nI_add (6 * j) 1) (by omega) hL ?_
  refine r_aload_n C dL_law_1130 3 rfl ?_
  refine r_iload_n C dL_law_1131 0 rfl ?_
  refine r_iconst C dL_law_1132 ic_2 ?_
  refine r_iadd C dL_law_1133 ?_
  refine r_xld (q := 6 * j + 2) hX hbl hbA C dL_law_1134 (nI_add (6 * j) 2) (by omega) hL ?_
  refine r_aload_n C dL_law_1135 3 rfl ?_
  refine r_iload_n C dL_law_1136 0 rfl ?_
  refine r_iconst C dL_law_1137 ic_3 ?_
  refine r_iadd C dL_law_1138 ?_
  refine r_xld (q := 6 * j + 3) hX hbl hbA C dL_law_1139 (nI_add (6 * j) 3) (by omega) hL ?_
  refine r_aload_n C dL_law_1140 3 rfl ?_
  refine r_iload_n C dL_law_1141 0 rfl ?_
  refine r_iconst C dL_law_1142 ic_4 ?_
  refine r_iadd C dL_law_1143 ?_
  refine r_xld (q := 6 * j + 4) hX hbl hbA C dL_law_1144 (nI_add (6 * j) 4) (by omega) hL ?_
  refine r_callV (G := (c, s, sh, R)) (a := 0) (As := [.int (xs (6 * j + 1)), .int (xs (6 * j + 2)), .int (xs (6 * j + 3)), .int (xs (6 * j + 4))]) (rest := []) C mlL_130 dL_law_1145 (tX11_take (l := Z.1.2.1) (w := zw Z) hY 5001 (xs (6 * j + 1)) (xs (6 * j + 2)) (xs (6 * j + 3)) (xs (6 * j + 4)) e1) rfl rfl (ly0 hY) rfl (by rw [hRm]; exact ⟨nle rfl, nle rfl⟩) (by rw [hRm]; exact ⟨hc, hs⟩) (nle rfl) ?_
  show Wm Z (c, s, sh, R) μ1 1148 (LV Z b (6 * j)) [.int r]
  refine r_aload_n C dL_law_1148 1 rfl ?_
  refine r_aload_n C dL_law_1149 3 rfl ?_
  refine r_iload_n C dL_law_1150 0 rfl ?_
  refine r_iconst C dL_law_1151 ic_1 ?_
  refine r_iadd C dL_law_1152 ?_
  refine r_xld (q := 6 * j + 1) hX hbl hbA C dL_law_1153 (nI_add (6 * j) 1) (by omega) hL ?_
  refine r_aload_n C dL_law_1154 3 rfl ?_
  refine r_iload_n C dL_law_1155 0 rfl ?_
  refine r_iconst C dL_law_1156 ic_2 ?_
  refine r_iadd C dL_law_1157 ?_
  refine r_xld (q := 6 * j + 2) hX hbl hbA C dL_law_1158 (nI_add (6 * j) 2) (by omega) hL ?_
  refine r_aload_n C dL_law_1159 3 rfl ?_
  refine r_iload_n C dL_law_1160 0 rfl ?_
  refine r_iconst C dL_law_1161 ic_3 ?_
  refine r_iadd C dL_law_1162 ?_
  refine r_xld (q := 6 * j + 3) hX hbl hbA C dL_law_1163 (nI_add (6 * j) 3) (by omega) hL ?_
  refine r_aload_n C dL_law_1164 3 rfl ?_
  refine r_iload_n C dL_law_1165 0 rfl ?_
  refine r_iconst C dL_law_1166 ic_4 ?_
  refine r_iadd C dL_law_1167 ?_
  refine r_xld (q := 6 * j + 4) hX hbl hbA C dL_law_1168 (nI_add (6 * j) 4) (by omega) hL ?_
  refine r_callV (G := (c, s, sh, R)) (a := 139) (As := [.int (xs (6 * j + 1)), .int (xs (6 * j + 2)), .int (xs (6 * j + 3)), .int (xs (6 * j + 4))]) (rest := [.int r]) C mlL_133 dL_law_1169 (tX12_take (l := Z.1.2.1) (w := zw Z) hY 5001 (xs (6 * j + 1)) (xs (6 * j + 2)) (xs (6 * j + 3)) (xs (6 * j + 4)) e2) rfl rfl (ly139 hY) rfl (by rw [hRm]; exact ⟨nle rfl, nle rfl⟩) (by rw [hRm]; exact ⟨hc, hs⟩) (nle rfl) ?_
  show Wm Z (c, s, sh, R) μ2 1172 (LV Z b (6 * j)) [.int r, .int r]
  refine r_icmp_eq 1735 C dL_law_1172 (by decide) (fun _ => ?_) (fun c => absurd rfl c)
  exact kk _ _ sh R μ2 (by omega) (by omega) e3 hY
set_option maxRecDepth 100000 in
set_option maxHeartbeats 4000000 in
theorem lc29 {Z : ZC} {b L j c s : Nat} {xs : Nat → Int32} {sh : List Sh} {R : Rf} {μ : Mu} (hW : LW Z b L xs) (hI : INV j sh R μ) (hY : LY sh R) (hq : 6 * j + 6 ≤ L) (hc : c + 19 ≤ 600000) (hs : s + 1107 ≤ 7302250) (kk : LN Z b j c s) : Wm Z (c, s, sh, R) μ 1177 (LV Z b (6 * j)) [] := by
  obtain ⟨C, hRm, hX, hbl, hbA, hL⟩ := hW
  have hk : j < 512 := by omega
  have hc : c + 0 ≤ 600000 := by omega
  have hs : s + 0 ≤ 7302250 := by omega
  obtain ⟨r, μ1, μ2, e1, e2, e3⟩ := m_needs (n := 5001) (k := j) (x := (xs (6 * j + 1))) (y := (xs (6 * j + 2))) hI hk (by decide)
  refine r_aload_n C dL_law_1177 2 rfl ?_
  refine r_aload_n C dL_law_1178 3 rfl ?_
  refine r_iload_n C dL_law_1179 0 rfl ?_
  refine r_iconst C dL_law_1180 ic_1 ?_
  refine r_iadd C dL_law_1181 ?_
  refine r_xld (q := 6 * j + 1) hX hbl hbA C dL_law_1182 (nI_add (6 * j) 1) (by omega) hL ?_
  refine r_aload_n C dL_law_1183 3 rfl ?_
  refine r_iload_n C dL_law_1184 0 rfl ?_
  refine r_iconst C dL_law_1185 ic_2 ?_
  refine r_iadd C dL_law_1186 ?_
  refine r_xld (q := 6 * j + 2) hX hbl hbA C dL_law_1187 (nI_add (6 * j) 2) (by omega) hL ?_
  refine r_callV (G := (c, s, sh, R)) (a := 0) (As := [.int (xs (6 * j + 1)), .int (xs (6 * j + 2))]) (rest := []) C mlL_134 dL_law_1188 (tX11_needs (l := Z.1.2.1) (w := zw Z) hY 5001 (xs (6 * j + 1)) (xs (6 * j + 2)) e1) rfl rfl (ly0 hY) rfl (by rw [hRm]; exact ⟨nle rfl, nle rfl⟩) (by rw [hRm]; exact ⟨hc, hs⟩) (nle rfl) ?_
  show Wm Z (c, s, sh, R) μ1 1191 (LV Z b (6 * j)) [.int r]
  refine r_aload_n C dL_law_1191 1 rfl ?_
  refine r_aload_n C dL_law_1192 3 rfl ?_
  refine r_iload_n C dL_law_1193 0 rfl ?_
  refine r_iconst C dL_law_1194 ic_1 ?_
  refine r_iadd C dL_law_1195 ?_
  refine r_xld (q := 6 * j + 1) hX hbl hbA C dL_law_1196 (nI_add (6 * j) 1) (by omega) hL ?_
  refine r_aload_n C dL_law_1197 3 rfl ?_
  refine r_iload_n C dL_law_1198 0 rfl ?_
  refine r_iconst C dL_law_1199 ic_2 ?_
  refine r_iadd C dL_law_1200 ?_
  refine r_xld (q := 6 * j + 2) hX hbl hbA C dL_law_1201 (nI_add (6 * j) 2) (by omega) hL ?_
  refine r_callV (G := (c, s, sh, R)) (a := 139) (As := [.int (xs (6 * j + 1)), .int (xs (6 * j + 2))]) (rest := [.int r]) C mlL_137 dL_law_1202 (tX12_needs (l := Z.1.2.1) (w := zw Z) hY 5001 (xs (6 * j + 1)) (xs (6 * j + 2)) e2) rfl rfl (ly139 hY) rfl (by rw [hRm]; exact ⟨nle rfl, nle rfl⟩) (by rw [hRm]; exact ⟨hc, hs⟩) (nle rfl) ?_
  show Wm Z (c, s, sh, R) μ2 1205 (LV Z b (6 * j)) [.int r, .int r]
  refine r_icmp_eq 1735 C dL_law_1205 (by decide) (fun _ => ?_) (fun c => absurd rfl c)
  exact kk _ _ sh R μ2 (by omega) (by omega) e3 hY
set_option maxRecDepth 100000 in
set_option maxHeartbeats 4000000 in
theorem lc30 {Z : ZC} {b L j c s : Nat} {xs : Nat → Int32} {sh : List Sh} {R : Rf} {μ : Mu} (hW : LW Z b L xs) (hI : INV j sh R μ) (hY : LY sh R) (hq : 6 * j + 6 ≤ L) (hc : c + 19 ≤ 600000) (hs : s + 1107 ≤ 7302250) (kk : LN Z b j c s) : Wm Z (c, s, sh, R) μ 1210 (LV Z b (6 * j)) [] := by
  obtain ⟨C, hRm, hX, hbl, hbA, hL⟩ := hW
  have hk : j < 512 := by omega
  have hc : c + 0 ≤ 600000 := by omega
  have hs : s + 0 ≤ 7302250 := by omega
  obtain ⟨r, μ1, μ2, e1, e2, e3⟩ := m_spies (n := 5001) (k := j) (x := (xs (6 * j + 1))) (y := (xs (6 * j + 2))) (z := (xs (6 * j + 3))) hI hk (by decide)
  refine r_aload_n C dL_law_1210 2 rfl ?_
  refine r_aload_n C dL_law_1211 3 rfl ?_
  refine r_iload_n C dL_law_1212 0 rfl ?_
  refine r_iconst C dL_law_1213 ic_1 ?_
  refine r_iadd C dL_law_1214 ?_
  refine r_xld (q := 6 * j + 1) hX hbl hbA C dL_law_1215 (nI_add (6 * j) 1) (by omega) hL ?_
  refine r_aload_n C dL_law_1216 3 rfl ?_
  refine r_iload_n C dL_law_1217 0 rfl ?_
  refine r_iconst C dL_law_1218 ic_2 ?_
  refine r_iadd C dL_law_1219 ?_
  refine r_xld (q := 6 * j + 2) hX hbl hbA C dL_law_1220 (nI_add (6 * j) 2) (by omega) hL ?_
  refine r_aload_n C dL_law_1221 3 rfl ?_
  refine r_iload_n C dL_law_1222 0 rfl ?_
  refine r_iconst C dL_law_1223 ic_3 ?_
  refine r_iadd C dL_law_1224 ?_
  refine r_xld (q := 6 * j + 3) hX hbl hbA C dL_law_1225 (nI_add (6 * j) 3) (by omega) hL ?_
  refine r_callV (G := (c, s, sh, R)) (a := 0) (As := [.int (xs (6 * j + 1)), .int (xs (6 * j + 2)), .int (xs (6 * j + 3))]) (rest := []) C mlL_138 dL_law_1226 (tX11_spies (l := Z.1.2.1) (w := zw Z) hY 5001 (xs (6 * j + 1)) (xs (6 * j + 2)) (xs (6 * j + 3)) e1) rfl rfl (ly0 hY) rfl (by rw [hRm]; exact ⟨nle rfl, nle rfl⟩) (by rw [hRm]; exact ⟨hc, hs⟩) (nle rfl) ?_
  show Wm Z (c, s, sh, R) μ1 1229 (LV Z b (6 * j)) [.int r]
  refine r_aload_n C dL_law_1229 1 rfl ?_
  refine r_aload_n C dL_law_1230 3 rfl ?_
  refine r_iload_n C dL_law_1231 0 rfl ?_
  refine r_iconst C dL_law_1232 ic_1 ?_
  refine r_iadd C dL_law_1233 ?_
  refine r_xld (q := 6 * j + 1) hX hbl hbA C dL_law_1234 (nI_add (6 * j) 1) (by omega) hL ?_
  refine r_aload_n C dL_law_1235 3 rfl ?_
  refine r_iload_n C dL_law_1236 0 rfl ?_
  refine r_iconst C dL_law_1237 ic_2 ?_
  refine r_iadd C dL_law_1238 ?_
  refine r_xld (q := 6 * j + 2) hX hbl hbA C dL_law_1239 (nI_add (6 * j) 2) (by omega) hL ?_
  refine r_aload_n C dL_law_1240 3 rfl ?_
  refine r_iload_n C dL_law_1241 0 rfl ?_
  refine r_iconst C dL_law_1242 ic_3 ?_
  refine r_iadd C dL_law_1243 ?_
  refine r_xld (q := 6 * j + 3) hX hbl hbA C dL_law_1244 (nI_add (6 * j) 3) (by omega) hL ?_
  refine r_callV (G := (c, s, sh, R)) (a := 139) (As := [.int (xs (6 * j + 1)), .int (xs (6 * j + 2)), .int (xs (6 * j + 3))]) (rest := [.int r]) C mlL_141 dL_law_1245 (tX12_spies (l := Z.1.2.1) (w := zw Z) hY 5001 (xs (6 * j + 1)) (xs (6 * j + 2)) (xs (6 * j + 3)) e2) rfl rfl (ly139 hY) rfl (by rw [hRm]; exact ⟨nle rfl, nle rfl⟩) (by rw [hRm]; exact ⟨hc, hs⟩) (nle rfl) ?_
  show Wm Z (c, s, sh, R) μ2 1248 (LV Z b (6 * j)) [.int r, .int r]
  refine r_icmp_eq 1735 C dL_law_1248 (by decide) (fun _ => ?_) (fun c => absurd rfl c)
  exact kk _ _ sh R μ2 (by omega) (by omega) e3 hY
set_option maxRecDepth 100000 in
set_option maxHeartbeats 4000000 in
theorem lc31 {Z : ZC} {b L j c s : Nat} {xs : Nat → Int32} {sh : List Sh} {R : Rf} {μ : Mu} (hW : LW Z b L xs) (hI : INV j sh R μ) (hY : LY sh R) (hq : 6 * j + 6 ≤ L) (hc : c + 19 ≤ 600000) (hs : s + 1107 ≤ 7302250) (kk : LN Z b j c s) : Wm Z (c, s, sh, R) μ 1253 (LV Z b (6 * j)) [] := by
  obtain ⟨C, hRm, hX, hbl, hbA, hL⟩ := hW
  have hk : j < 512 := by omega
  have hc : c + 0 ≤ 600000 := by omega
  have hs : s + 0 ≤ 7302250 := by omega
  obtain ⟨r, μ1, μ2, e1, e2, e3⟩ := m_watch (n := 5001) (k := j) (x := (xs (6 * j + 1))) hI hk (by decide)
  refine r_aload_n C dL_law_1253 2 rfl ?_
  refine r_aload_n C dL_law_1254 3 rfl ?_
  refine r_iload_n C dL_law_1255 0 rfl ?_
  refine r_iconst C dL_law_1256 ic_1 ?_
  refine r_iadd C dL_law_1257 ?_
  refine r_xld (q := 6 * j + 1) hX hbl hbA C dL_law_1258 (nI_add (6 * j) 1) (by omega) hL ?_
  refine r_callV (G := (c, s, sh, R)) (a := 0) (As := [.int (xs (6 * j + 1))]) (rest := []) C mlL_142 dL_law_1259 (tX11_watch (l := Z.1.2.1) (w := zw Z) hY 5001 (xs (6 * j + 1)) e1) rfl rfl (ly0 hY) rfl (by rw [hRm]; exact ⟨nle rfl, nle rfl⟩) (by rw [hRm]; exact ⟨hc, hs⟩) (nle rfl) ?_
  show Wm Z (c, s, sh, R) μ1 1262 (LV Z b (6 * j)) [.int r]
  refine r_aload_n C dL_law_1262 1 rfl ?_
  refine r_aload_n C dL_law_1263 3 rfl ?_
  refine r_iload_n C dL_law_1264 0 rfl ?_
  refine r_iconst C dL_law_1265 ic_1 ?_
  refine r_iadd C dL_law_1266 ?_
  refine r_xld (q := 6 * j + 1) hX hbl hbA C dL_law_1267 (nI_add (6 * j) 1) (by omega) hL ?_
  refine r_callV (G := (c, s, sh, R)) (a := 139) (As := [.int (xs (6 * j + 1))]) (rest := [.int r]) C mlL_145 dL_law_1268 (tX12_watch (l := Z.1.2.1) (w := zw Z) hY 5001 (xs (6 * j + 1)) e2) rfl rfl (ly139 hY) rfl (by rw [hRm]; exact ⟨nle rfl, nle rfl⟩) (by rw [hRm]; exact ⟨hc, hs⟩) (nle rfl) ?_
  show Wm Z (c, s, sh, R) μ2 1271 (LV Z b (6 * j)) [.int r, .int r]
  refine r_icmp_eq 1735 C dL_law_1271 (by decide) (fun _ => ?_) (fun c => absurd rfl c)
  exact kk _ _ sh R μ2 (by omega) (by omega) e3 hY
set_option maxRecDepth 100000 in
set_option maxHeartbeats 4000000 in
theorem lc32 {Z : ZC} {b L j c s : Nat} {xs : Nat → Int32} {sh : List Sh} {R : Rf} {μ : Mu} (hW : LW Z b L xs) (hI : INV j sh R μ) (hY : LY sh R) (hq : 6 * j + 6 ≤ L) (hc : c + 19 ≤ 600000) (hs : s + 1107 ≤ 7302250) (kk : LN Z b j c s) : Wm Z (c, s, sh, R) μ 1276 (LV Z b (6 * j)) [] := by
  obtain ⟨C, hRm, hX, hbl, hbA, hL⟩ := hW
  have hk : j < 512 := by omega
  have hc : c + 0 ≤ 600000 := by omega
  have hs : s + 0 ≤ 7302250 := by omega
  obtain ⟨r, μ1, μ2, e1, e2, e3⟩ := m_hears (n := 5001) (k := j) (x := (xs (6 * j + 1))) hI hk (by decide)
  obtain ⟨r0, e5, e0⟩ := bnd_inv e1
  obtain ⟨h1, h2⟩ := Prod.mk.inj (Option.some.inj e0)
  subst h1; subst h2
  refine r_aload_n C dL_law_1276 2 rfl ?_
  refine r_aload_n C dL_law_1277 3 rfl ?_
  refine r_iload_n C dL_law_1278 0 rfl ?_
  refine r_iconst C dL_law_1279 ic_1 ?_
  refine r_iadd C dL_law_1280 ?_
  refine r_xld (q := 6 * j + 1) hX hbl hbA C dL_law_1281 (nI_add (6 * j) 1) (by omega) hL ?_
  refine r_callV (G := (c, s, sh, R)) (a := 0) (As := [.int (xs (6 * j + 1))]) (rest := []) C mlL_146 dL_law_1282 (tX11_hears (l := Z.1.2.1) (w := zw Z) hY 5001 (xs (6 * j + 1)) e5) rfl rfl (ly0 hY) rfl (by rw [hRm]; exact ⟨nle rfl, nle rfl⟩) (by rw [hRm]; exact ⟨hc, hs⟩) (nle rfl) ?_
  show Wm Z (c, s, sh, R) μ 1285 (LV Z b (6 * j)) [.int r0]
  refine r_aload_n C dL_law_1285 1 rfl ?_
  refine r_aload_n C dL_law_1286 3 rfl ?_
  refine r_iload_n C dL_law_1287 0 rfl ?_
  refine r_iconst C dL_law_1288 ic_1 ?_
  refine r_iadd C dL_law_1289 ?_
  refine r_xld (q := 6 * j + 1) hX hbl hbA C dL_law_1290 (nI_add (6 * j) 1) (by omega) hL ?_
  refine r_callV (G := (c, s, sh, R)) (a := 139) (As := [.int (xs (6 * j + 1))]) (rest := [.int r0]) C mlL_149 dL_law_1291 (tX12_hears (l := Z.1.2.1) (w := zw Z) hY 5001 (xs (6 * j + 1)) e2) rfl rfl (ly139 hY) rfl (by rw [hRm]; exact ⟨nle rfl, nle rfl⟩) (by rw [hRm]; exact ⟨hc, hs⟩) (nle rfl) ?_
  show Wm Z (c, s, sh, R) μ2 1294 (LV Z b (6 * j)) [.int r0, .int r0]
  refine r_icmp_eq 1735 C dL_law_1294 (by decide) (fun _ => ?_) (fun c => absurd rfl c)
  exact kk _ _ sh R μ2 (by omega) (by omega) e3 hY
set_option maxRecDepth 100000 in
set_option maxHeartbeats 4000000 in
theorem lc33 {Z : ZC} {b L j c s : Nat} {xs : Nat → Int32} {sh : List Sh} {R : Rf} {μ : Mu} (hW : LW Z b L xs) (hI : INV j sh R μ) (hY : LY sh R) (hq : 6 * j + 6 ≤ L) (hc : c + 19 ≤ 600000) (hs : s + 1107 ≤ 7302250) (kk : LN Z b j c s) : Wm Z (c, s, sh, R) μ 1299 (LV Z b (6 * j)) [] := by
  obtain ⟨C, hRm, hX, hbl, hbA, hL⟩ := hW
  have hk : j < 512 := by omega
  have hc : c + 0 ≤ 600000 := by omega
  have hs : s + 0 ≤ 7302250 := by omega
  obtain ⟨r, μ1, μ2, e1, e2, e3⟩ := m_mutual (n := 5001) (k := j) hI hk (by decide)
  obtain ⟨r0, e5, e0⟩ := bnd_inv e1
  obtain ⟨h1, h2⟩ := Prod.mk.inj (Option.some.inj e0)
  subst h1; subst h2
  refine r_aload_n C dL_law_1299 2 rfl ?_
  refine r_callV (G := (c, s, sh, R)) (a := 0) (As := []) (rest := []) C mlL_150 dL_law_1300 (tX11_mutual (l := Z.1.2.1) (w := zw Z) hY 5001  e5) rfl rfl (ly0 hY) rfl (by rw [hRm]; exact ⟨nle rfl, nle rfl⟩) (by rw [hRm]; exact ⟨hc, hs⟩) (nle rfl) ?_
  show Wm Z (c, s, sh, R) μ 1303 (LV Z b (6 * j)) [.int r0]
  refine r_aload_n C dL_law_1303 1 rfl ?_
  refine r_callV (G := (c, s, sh, R)) (a := 139) (As := []) (rest := [.int r0]) C mlL_154 dL_law_1304 (tX12_mutual (l := Z.1.2.1) (w := zw Z) hY 5001  e2) rfl rfl (ly139 hY) rfl (by rw [hRm]; exact ⟨nle rfl, nle rfl⟩) (by rw [hRm]; exact ⟨hc, hs⟩) (nle rfl) ?_
  show Wm Z (c, s, sh, R) μ2 1307 (LV Z b (6 * j)) [.int r0, .int r0]
  refine r_icmp_eq 1735 C dL_law_1307 (by decide) (fun _ => ?_) (fun c => absurd rfl c)
  exact kk _ _ sh R μ2 (by omega) (by omega) e3 hY
set_option maxRecDepth 100000 in
set_option maxHeartbeats 4000000 in
theorem lc34 {Z : ZC} {b L j c s : Nat} {xs : Nat → Int32} {sh : List Sh} {R : Rf} {μ : Mu} (hW : LW Z b L xs) (hI : INV j sh R μ) (hY : LY sh R) (hq : 6 * j + 6 ≤ L) (hc : c + 19 ≤ 600000) (hs : s + 1107 ≤ 7302250) (kk : LN Z b j c s) : Wm Z (c, s, sh, R) μ 1312 (LV Z b (6 * j)) [] := by
  obtain ⟨C, hRm, hX, hbl, hbA, hL⟩ := hW
  have hk : j < 512 := by omega
  have hc : c + 0 ≤ 600000 := by omega
  have hs : s + 0 ≤ 7302250 := by omega
  obtain ⟨r, μ1, μ2, e1, e2, e3⟩ := m_passes (n := 5001) (k := j) (x := (xs (6 * j + 1))) (y := (xs (6 * j + 2))) hI hk (by decide)
  obtain ⟨r0, e5, e0⟩ := bnd_inv e1
  obtain ⟨h1, h2⟩ := Prod.mk.inj (Option.some.inj e0)
  subst h1; subst h2
  refine r_aload_n C dL_law_1312 2 rfl ?_
  refine r_aload_n C dL_law_1313 3 rfl ?_
  refine r_iload_n C dL_law_1314 0 rfl ?_
  refine r_iconst C dL_law_1315 ic_1 ?_
  refine r_iadd C dL_law_1316 ?_
  refine r_xld (q := 6 * j + 1) hX hbl hbA C dL_law_1317 (nI_add (6 * j) 1) (by omega) hL ?_
  refine r_aload_n C dL_law_1318 3 rfl ?_
  refine r_iload_n C dL_law_1319 0 rfl ?_
  refine r_iconst C dL_law_1320 ic_2 ?_
  refine r_iadd C dL_law_1321 ?_
  refine r_xld (q := 6 * j + 2) hX hbl hbA C dL_law_1322 (nI_add (6 * j) 2) (by omega) hL ?_
  refine r_callV (G := (c, s, sh, R)) (a := 0) (As := [.int (xs (6 * j + 1)), .int (xs (6 * j + 2))]) (rest := []) C mlL_155 dL_law_1323 (tX11_passes (l := Z.1.2.1) (w := zw Z) hY 5001 (xs (6 * j + 1)) (xs (6 * j + 2)) e5) rfl rfl (ly0 hY) rfl (by rw [hRm]; exact ⟨nle rfl, nle rfl⟩) (by rw [hRm]; exact ⟨hc, hs⟩) (nle rfl) ?_
  show Wm Z (c, s, sh, R) μ 1326 (LV Z b (6 * j)) [.int r0]
  refine r_aload_n C dL_law_1326 1 rfl ?_
  refine r_aload_n C dL_law_1327 3 rfl ?_
  refine r_iload_n C dL_law_1328 0 rfl ?_
  refine r_iconst C dL_law_1329 ic_1 ?_
  refine r_iadd C dL_law_1330 ?_
  refine r_xld (q := 6 * j + 1) hX hbl hbA C dL_law_1331 (nI_add (6 * j) 1) (by omega) hL ?_
  refine r_aload_n C dL_law_1332 3 rfl ?_
  refine r_iload_n C dL_law_1333 0 rfl ?_
  refine r_iconst C dL_law_1334 ic_2 ?_
  refine r_iadd C dL_law_1335 ?_
  refine r_xld (q := 6 * j + 2) hX hbl hbA C dL_law_1336 (nI_add (6 * j) 2) (by omega) hL ?_
  refine r_callV (G := (c, s, sh, R)) (a := 139) (As := [.int (xs (6 * j + 1)), .int (xs (6 * j + 2))]) (rest := [.int r0]) C mlL_158 dL_law_1337 (tX12_passes (l := Z.1.2.1) (w := zw Z) hY 5001 (xs (6 * j + 1)) (xs (6 * j + 2)) e2) rfl rfl (ly139 hY) rfl (by rw [hRm]; exact ⟨nle rfl, nle rfl⟩) (by rw [hRm]; exact ⟨hc, hs⟩) (nle rfl) ?_
  show Wm Z (c, s, sh, R) μ2 1340 (LV Z b (6 * j)) [.int r0, .int r0]
  refine r_icmp_eq 1735 C dL_law_1340 (by decide) (fun _ => ?_) (fun c => absurd rfl c)
  exact kk _ _ sh R μ2 (by omega) (by omega) e3 hY
set_option maxRecDepth 100000 in
set_option maxHeartbeats 4000000 in
theorem lc35 {Z : ZC} {b L j c s : Nat} {xs : Nat → Int32} {sh : List Sh} {R : Rf} {μ : Mu} (hW : LW Z b L xs) (hI : INV j sh R μ) (hY : LY sh R) (hq : 6 * j + 6 ≤ L) (hc : c + 19 ≤ 600000) (hs : s + 1107 ≤ 7302250) (kk : LN Z b j c s) : Wm Z (c, s, sh, R) μ 1345 (LV Z b (6 * j)) [] := by
  obtain ⟨C, hRm, hX, hbl, hbA, hL⟩ := hW
  have hk : j < 512 := by omega
  have hc : c + 0 ≤ 600000 := by omega
  have hs : s + 0 ≤ 7302250 := by omega
  obtain ⟨r, μ1, μ2, e1, e2, e3⟩ := m_gift (n := 5001) (k := j) hI hk (by decide)
  refine r_aload_n C dL_law_1345 2 rfl ?_
  refine r_callV (G := (c, s, sh, R)) (a := 0) (As := []) (rest := []) C mlL_159 dL_law_1346 (tX11_gift (l := Z.1.2.1) (w := zw Z) hY 5001  e1) rfl rfl (ly0 hY) rfl (by rw [hRm]; exact ⟨nle rfl, nle rfl⟩) (by rw [hRm]; exact ⟨hc, hs⟩) (nle rfl) ?_
  show Wm Z (c, s, sh, R) μ1 1349 (LV Z b (6 * j)) [.int r]
  refine r_aload_n C dL_law_1349 1 rfl ?_
  refine r_callV (G := (c, s, sh, R)) (a := 139) (As := []) (rest := [.int r]) C mlL_162 dL_law_1350 (tX12_gift (l := Z.1.2.1) (w := zw Z) hY 5001  e2) rfl rfl (ly139 hY) rfl (by rw [hRm]; exact ⟨nle rfl, nle rfl⟩) (by rw [hRm]; exact ⟨hc, hs⟩) (nle rfl) ?_
  show Wm Z (c, s, sh, R) μ2 1353 (LV Z b (6 * j)) [.int r, .int r]
  refine r_icmp_eq 1735 C dL_law_1353 (by decide) (fun _ => ?_) (fun c => absurd rfl c)
  exact kk _ _ sh R μ2 (by omega) (by omega) e3 hY
set_option maxRecDepth 100000 in
set_option maxHeartbeats 4000000 in
theorem lc36 {Z : ZC} {b L j c s : Nat} {xs : Nat → Int32} {sh : List Sh} {R : Rf} {μ : Mu} (hW : LW Z b L xs) (hI : INV j sh R μ) (hY : LY sh R) (hq : 6 * j + 6 ≤ L) (hc : c + 19 ≤ 600000) (hs : s + 1107 ≤ 7302250) (kk : LN Z b j c s) : Wm Z (c, s, sh, R) μ 1358 (LV Z b (6 * j)) [] := by
  obtain ⟨C, hRm, hX, hbl, hbA, hL⟩ := hW
  have hk : j < 512 := by omega
  have hc : c + 0 ≤ 600000 := by omega
  have hs : s + 0 ≤ 7302250 := by omega
  obtain ⟨r, μ1, μ2, e1, e2, e3⟩ := m_fits (n := 5001) (k := j) (x := (xs (6 * j + 1))) hI hk (by decide)
  refine r_aload_n C dL_law_1358 2 rfl ?_
  refine r_aload_n C dL_law_1359 3 rfl ?_
  refine r_iload_n C dL_law_1360 0 rfl ?_
  refine r_iconst C dL_law_1361 ic_1 ?_
  refine r_iadd C dL_law_1362 ?_
  refine r_xld (q := 6 * j + 1) hX hbl hbA C dL_law_1363 (nI_add (6 * j) 1) (by omega) hL ?_
  refine r_callV (G := (c, s, sh, R)) (a := 0) (As := [.int (xs (6 * j + 1))]) (rest := []) C mlL_163 dL_law_1364 (tX11_fits (l := Z.1.2.1) (w := zw Z) hY 5001 (xs (6 * j + 1)) e1) rfl rfl (ly0 hY) rfl (by rw [hRm]; exact ⟨nle rfl, nle rfl⟩) (by rw [hRm]; exact ⟨hc, hs⟩) (nle rfl) ?_
  show Wm Z (c, s, sh, R) μ1 1367 (LV Z b (6 * j)) [.int r]
  refine r_aload_n C dL_law_1367 1 rfl ?_
  refine r_aload_n C dL_law_1368 3 rfl ?_
  refine r_iload_n C dL_law_1369 0 rfl ?_
  refine r_iconst C dL_law_1370 ic_1 ?_
  refine r_iadd C dL_law_1371 ?_
  refine r_xld (q := 6 * j + 1) hX hbl hbA C dL_law_1372 (nI_add (6 * j) 1) (by omega) hL ?_
  refine r_callV (G := (c, s, sh, R)) (a := 139) (As := [.int (xs (6 * j + 1))]) (rest := [.int r]) C mlL_166 dL_law_1373 (tX12_fits (l := Z.1.2.1) (w := zw Z) hY 5001 (xs (6 * j + 1)) e2) rfl rfl (ly139 hY) rfl (by rw [hRm]; exact ⟨nle rfl, nle rfl⟩) (by rw [hRm]; exact ⟨hc, hs⟩) (nle rfl) ?_
  show Wm Z (c, s, sh, R) μ2 1376 (LV Z b (6 * j)) [.int r, .int r]
  refine r_icmp_eq 1735 C dL_law_1376 (by decide) (fun _ => ?_) (fun c => absurd rfl c)
  exact kk _ _ sh R μ2 (by omega) (by omega) e3 hY
set_option maxRecDepth 100000 in
set_option maxHeartbeats 4000000 in
theorem lc37 {Z : ZC} {b L j c s : Nat} {xs : Nat → Int32} {sh : List Sh} {R : Rf} {μ : Mu} (hW : LW Z b L xs) (hI : INV j sh R μ) (hY : LY sh R) (hq : 6 * j + 6 ≤ L) (hc : c + 19 ≤ 600000) (hs : s + 1107 ≤ 7302250) (kk : LN Z b j c s) : Wm Z (c, s, sh, R) μ 1381 (LV Z b (6 * j)) [] := by
  obtain ⟨C, hRm, hX, hbl, hbA, hL⟩ := hW
  have hk : j < 512 := by omega
  have hc : c + 0 ≤ 600000 := by omega
  have hs : s + 0 ≤ 7302250 := by omega
  obtain ⟨r, μ1, μ2, e1, e2, e3⟩ := m_slips (n := 5001) (k := j) (x := (xs (6 * j + 1))) (y := (xs (6 * j + 2))) hI hk (by decide)
  refine r_aload_n C dL_law_1381 2 rfl ?_
  refine r_aload_n C dL_law_1382 3 rfl ?_
  refine r_iload_n C dL_law_1383 0 rfl ?_
  refine r_iconst C dL_law_1384 ic_1 ?_
  refine r_iadd C dL_law_1385 ?_
  refine r_xld (q := 6 * j + 1) hX hbl hbA C dL_law_1386 (nI_add (6 * j) 1) (by omega) hL ?_
  refine r_aload_n C dL_law_1387 3 rfl ?_
  refine r_iload_n C dL_law_1388 0 rfl ?_
  refine r_iconst C dL_law_1389 ic_2 ?_
  refine r_iadd C dL_law_1390 ?_
  refine r_xld (q := 6 * j + 2) hX hbl hbA C dL_law_1391 (nI_add (6 * j) 2) (by omega) hL ?_
  refine r_callV (G := (c, s, sh, R)) (a := 0) (As := [.int (xs (6 * j + 1)), .int (xs (6 * j + 2))]) (rest := []) C mlL_167 dL_law_1392 (tX11_slips (l := Z.1.2.1) (w := zw Z) hY 5001 (xs (6 * j + 1)) (xs (6 * j + 2)) e1) rfl rfl (ly0 hY) rfl (by rw [hRm]; exact ⟨nle rfl, nle rfl⟩) (by rw [hRm]; exact ⟨hc, hs⟩) (nle rfl) ?_
  show Wm Z (c, s, sh, R) μ1 1395 (LV Z b (6 * j)) [.int r]
  refine r_aload_n C dL_law_1395 1 rfl ?_
  refine r_aload_n C dL_law_1396 3 rfl ?_
  refine r_iload_n C dL_law_1397 0 rfl ?_
  refine r_iconst C dL_law_1398 ic_1 ?_
  refine r_iadd C dL_law_1399 ?_
  refine r_xld (q := 6 * j + 1) hX hbl hbA C dL_law_1400 (nI_add (6 * j) 1) (by omega) hL ?_
  refine r_aload_n C dL_law_1401 3 rfl ?_
  refine r_iload_n C dL_law_1402 0 rfl ?_
  refine r_iconst C dL_law_1403 ic_2 ?_
  refine r_iadd C dL_law_1404 ?_
  refine r_xld (q := 6 * j + 2) hX hbl hbA C dL_law_1405 (nI_add (6 * j) 2) (by omega) hL ?_
  refine r_callV (G := (c, s, sh, R)) (a := 139) (As := [.int (xs (6 * j + 1)), .int (xs (6 * j + 2))]) (rest := [.int r]) C mlL_170 dL_law_1406 (tX12_slips (l := Z.1.2.1) (w := zw Z) hY 5001 (xs (6 * j + 1)) (xs (6 * j + 2)) e2) rfl rfl (ly139 hY) rfl (by rw [hRm]; exact ⟨nle rfl, nle rfl⟩) (by rw [hRm]; exact ⟨hc, hs⟩) (nle rfl) ?_
  show Wm Z (c, s, sh, R) μ2 1409 (LV Z b (6 * j)) [.int r, .int r]
  refine r_icmp_eq 1735 C dL_law_1409 (by decide) (fun _ => ?_) (fun c => absurd rfl c)
  exact kk _ _ sh R μ2 (by omega) (by omega) e3 hY
set_option maxRecDepth 100000 in
set_option maxHeartbeats 4000000 in
theorem lc38 {Z : ZC} {b L j c s : Nat} {xs : Nat → Int32} {sh : List Sh} {R : Rf} {μ : Mu} (hW : LW Z b L xs) (hI : INV j sh R μ) (hY : LY sh R) (hq : 6 * j + 6 ≤ L) (hc : c + 19 ≤ 600000) (hs : s + 1107 ≤ 7302250) (kk : LN Z b j c s) : Wm Z (c, s, sh, R) μ 1414 (LV Z b (6 * j)) [] := by
  obtain ⟨C, hRm, hX, hbl, hbA, hL⟩ := hW
  have hk : j < 512 := by omega
  have hc : c + 0 ≤ 600000 := by omega
  have hs : s + 0 ≤ 7302250 := by omega
  obtain ⟨r, μ1, μ2, e1, e2, e3⟩ := m_likeliest (n := 5001) (k := j) (x := (xs (6 * j + 1))) hI hk (by decide)
  refine r_aload_n C dL_law_1414 2 rfl ?_
  refine r_aload_n C dL_law_1415 3 rfl ?_
  refine r_iload_n C dL_law_1416 0 rfl ?_
  refine r_iconst C dL_law_1417 ic_1 ?_
  refine r_iadd C dL_law_1418 ?_
  refine r_xld (q := 6 * j + 1) hX hbl hbA C dL_law_1419 (nI_add (6 * j) 1) (by omega) hL ?_
  refine r_callV (G := (c, s, sh, R)) (a := 0) (As := [.int (xs (6 * j + 1))]) (rest := []) C mlL_171 dL_law_1420 (tX11_likeliest (l := Z.1.2.1) (w := zw Z) hY 5001 (xs (6 * j + 1)) e1) rfl rfl (ly0 hY) rfl (by rw [hRm]; exact ⟨nle rfl, nle rfl⟩) (by rw [hRm]; exact ⟨hc, hs⟩) (nle rfl) ?_
  show Wm Z (c, s, sh, R) μ1 1423 (LV Z b (6 * j)) [.int r]
  refine r_aload_n C dL_law_1423 1 rfl ?_
  refine r_aload_n C dL_law_1424 3 rfl ?_
  refine r_iload_n C dL_law_1425 0 rfl ?_
  refine r_iconst C dL_law_1426 ic_1 ?_
  refine r_iadd C dL_law_1427 ?_
  refine r_xld (q := 6 * j + 1) hX hbl hbA C dL_law_1428 (nI_add (6 * j) 1) (by omega) hL ?_
  refine r_callV (G := (c, s, sh, R)) (a := 139) (As := [.int (xs (6 * j + 1))]) (rest := [.int r]) C mlL_174 dL_law_1429 (tX12_likeliest (l := Z.1.2.1) (w := zw Z) hY 5001 (xs (6 * j + 1)) e2) rfl rfl (ly139 hY) rfl (by rw [hRm]; exact ⟨nle rfl, nle rfl⟩) (by rw [hRm]; exact ⟨hc, hs⟩) (nle rfl) ?_
  show Wm Z (c, s, sh, R) μ2 1432 (LV Z b (6 * j)) [.int r, .int r]
  refine r_icmp_eq 1735 C dL_law_1432 (by decide) (fun _ => ?_) (fun c => absurd rfl c)
  exact kk _ _ sh R μ2 (by omega) (by omega) e3 hY
set_option maxRecDepth 100000 in
set_option maxHeartbeats 4000000 in
theorem lc39 {Z : ZC} {b L j c s : Nat} {xs : Nat → Int32} {sh : List Sh} {R : Rf} {μ : Mu} (hW : LW Z b L xs) (hI : INV j sh R μ) (hY : LY sh R) (hq : 6 * j + 6 ≤ L) (hc : c + 19 ≤ 600000) (hs : s + 1107 ≤ 7302250) (kk : LN Z b j c s) : Wm Z (c, s, sh, R) μ 1437 (LV Z b (6 * j)) [] := by
  obtain ⟨C, hRm, hX, hbl, hbA, hL⟩ := hW
  have hk : j < 512 := by omega
  have hc : c + 0 ≤ 600000 := by omega
  have hs : s + 0 ≤ 7302250 := by omega
  obtain ⟨r, μ1, μ2, e1, e2, e3⟩ := m_look (n := 5001) (k := j) (x := (xs (6 * j + 1))) hI hk (by decide)
  refine r_aload_n C dL_law_1437 2 rfl ?_
  refine r_aload_n C dL_law_1438 3 rfl ?_
  refine r_iload_n C dL_law_1439 0 rfl ?_
  refine r_iconst C dL_law_1440 ic_1 ?_
  refine r_iadd C dL_law_1441 ?_
  refine r_xld (q := 6 * j + 1) hX hbl hbA C dL_law_1442 (nI_add (6 * j) 1) (by omega) hL ?_
  refine r_callV (G := (c, s, sh, R)) (a := 0) (As := [.int (xs (6 * j + 1))]) (rest := []) C mlL_175 dL_law_1443 (tX11_look (l := Z.1.2.1) (w := zw Z) hY 5001 (xs (6 * j + 1)) e1) rfl rfl (ly0 hY) rfl (by rw [hRm]; exact ⟨nle rfl, nle rfl⟩) (by rw [hRm]; exact ⟨hc, hs⟩) (nle rfl) ?_
  show Wm Z (c, s, sh, R) μ1 1446 (LV Z b (6 * j)) [.int r]
  refine r_aload_n C dL_law_1446 1 rfl ?_
  refine r_aload_n C dL_law_1447 3 rfl ?_
  refine r_iload_n C dL_law_1448 0 rfl ?_
  refine r_iconst C dL_law_1449 ic_1 ?_
  refine r_iadd C dL_law_1450 ?_
  refine r_xld (q := 6 * j + 1) hX hbl hbA C dL_law_1451 (nI_add (6 * j) 1) (by omega) hL ?_
  refine r_callV (G := (c, s, sh, R)) (a := 139) (As := [.int (xs (6 * j + 1))]) (rest := [.int r]) C mlL_178 dL_law_1452 (tX12_look (l := Z.1.2.1) (w := zw Z) hY 5001 (xs (6 * j + 1)) e2) rfl rfl (ly139 hY) rfl (by rw [hRm]; exact ⟨nle rfl, nle rfl⟩) (by rw [hRm]; exact ⟨hc, hs⟩) (nle rfl) ?_
  show Wm Z (c, s, sh, R) μ2 1455 (LV Z b (6 * j)) [.int r, .int r]
  refine r_icmp_eq 1735 C dL_law_1455 (by decide) (fun _ => ?_) (fun c => absurd rfl c)
  exact kk _ _ sh R μ2 (by omega) (by omega) e3 hY
set_option maxRecDepth 100000 in
set_option maxHeartbeats 4000000 in
theorem lc40 {Z : ZC} {b L j c s : Nat} {xs : Nat → Int32} {sh : List Sh} {R : Rf} {μ : Mu} (hW : LW Z b L xs) (hI : INV j sh R μ) (hY : LY sh R) (hq : 6 * j + 6 ≤ L) (hc : c + 19 ≤ 600000) (hs : s + 1107 ≤ 7302250) (kk : LN Z b j c s) : Wm Z (c, s, sh, R) μ 1460 (LV Z b (6 * j)) [] := by
  obtain ⟨C, hRm, hX, hbl, hbA, hL⟩ := hW
  have hk : j < 512 := by omega
  have hc : c + 0 ≤ 600000 := by omega
  have hs : s + 0 ≤ 7302250 := by omega
  obtain ⟨r, μ1, μ2, e1, e2, e3⟩ := m_unlike (n := 5001) (k := j) (x := (xs (6 * j + 1))) (y := (xs (6 * j + 2))) hI hk (by decide)
  refine r_aload_n C dL_law_1460 2 rfl ?_
  refine r_aload_n C dL_law_1461 3 rfl ?_
  refine r_iload_n C dL_law_1462 0 rfl ?_
  refine r_iconst C dL_law_1463 ic_1 ?_
  refine r_iadd C dL_law_1464 ?_
  refine r_xld (q := 6 * j + 1) hX hbl hbA C dL_law_1465 (nI_add (6 * j) 1) (by omega) hL ?_
  refine r_aload_n C dL_law_1466 3 rfl ?_
  refine r_iload_n C dL_law_1467 0 rfl ?_
  refine r_iconst C dL_law_1468 ic_2 ?_
  refine r_iadd C dL_law_1469 ?_
  refine r_xld (q := 6 * j + 2) hX hbl hbA C dL_law_1470 (nI_add (6 * j) 2) (by omega) hL ?_
  refine r_callV (G := (c, s, sh, R)) (a := 0) (As := [.int (xs (6 * j + 1)), .int (xs (6 * j + 2))]) (rest := []) C mlL_179 dL_law_1471 (tX11_unlike (l := Z.1.2.1) (w := zw Z) hY 5001 (xs (6 * j + 1)) (xs (6 * j + 2)) e1) rfl rfl (ly0 hY) rfl (by rw [hRm]; exact ⟨nle rfl, nle rfl⟩) (by rw [hRm]; exact ⟨hc, hs⟩) (nle rfl) ?_
  show Wm Z (c, s, sh, R) μ1 1474 (LV Z b (6 * j)) [.int r]
  refine r_aload_n C dL_law_1474 1 rfl ?_
  refine r_aload_n C dL_law_1475 3 rfl ?_
  refine r_iload_n C dL_law_1476 0 rfl ?_
  refine r_iconst C dL_law_1477 ic_1 ?_
  refine r_iadd C dL_law_1478 ?_
  refine r_xld (q := 6 * j + 1) hX hbl hbA C dL_law_1479 (nI_add (6 * j) 1) (by omega) hL ?_
  refine r_aload_n C dL_law_1480 3 rfl ?_
  refine r_iload_n C dL_law_1481 0 rfl ?_
  refine r_iconst C dL_law_1482 ic_2 ?_
  refine r_iadd C dL_law_1483 ?_
  refine r_xld (q := 6 * j + 2) hX hbl hbA C dL_law_1484 (nI_add (6 * j) 2) (by omega) hL ?_
  refine r_callV (G := (c, s, sh, R)) (a := 139) (As := [.int (xs (6 * j + 1)), .int (xs (6 * j + 2))]) (rest := [.int r]) C mlL_182 dL_law_1485 (tX12_unlike (l := Z.1.2.1) (w := zw Z) hY 5001 (xs (6 * j + 1)) (xs (6 * j + 2)) e2) rfl rfl (ly139 hY) rfl (by rw [hRm]; exact ⟨nle rfl, nle rfl⟩) (by rw [hRm]; exact ⟨hc, hs⟩) (nle rfl) ?_
  show Wm Z (c, s, sh, R) μ2 1488 (LV Z b (6 * j)) [.int r, .int r]
  refine r_icmp_eq 1735 C dL_law_1488 (by decide) (fun _ => ?_) (fun c => absurd rfl c)
  exact kk _ _ sh R μ2 (by omega) (by omega) e3 hY
set_option maxRecDepth 100000 in
set_option maxHeartbeats 4000000 in
theorem lc41 {Z : ZC} {b L j c s : Nat} {xs : Nat → Int32} {sh : List Sh} {R : Rf} {μ : Mu} (hW : LW Z b L xs) (hI : INV j sh R μ) (hY : LY sh R) (hq : 6 * j + 6 ≤ L) (hc : c + 19 ≤ 600000) (hs : s + 1107 ≤ 7302250) (kk : LN Z b j c s) : Wm Z (c, s, sh, R) μ 1493 (LV Z b (6 * j)) [] := by
  obtain ⟨C, hRm, hX, hbl, hbA, hL⟩ := hW
  have hk : j < 512 := by omega
  have hc : c + 0 ≤ 600000 := by omega
  have hs : s + 0 ≤ 7302250 := by omega
  obtain ⟨r, μ1, μ2, e1, e2, e3⟩ := m_pairs (n := 5001) (k := j) (x := (xs (6 * j + 1))) hI hk (by decide)
  refine r_aload_n C dL_law_1493 2 rfl ?_
  refine r_aload_n C dL_law_1494 3 rfl ?_
  refine r_iload_n C dL_law_1495 0 rfl ?_
  refine r_iconst C dL_law_1496 ic_1 ?_
  refine r_iadd C dL_law_1497 ?_
  refine r_xld (q := 6 * j + 1) hX hbl hbA C dL_law_1498 (nI_add (6 * j) 1) (by omega) hL ?_
  refine r_callV (G := (c, s, sh, R)) (a := 0) (As := [.int (xs (6 * j + 1))]) (rest := []) C mlL_183 dL_law_1499 (tX11_pairs (l := Z.1.2.1) (w := zw Z) hY 5001 (xs (6 * j + 1)) e1) rfl rfl (ly0 hY) rfl (by rw [hRm]; exact ⟨nle rfl, nle rfl⟩) (by rw [hRm]; exact ⟨hc, hs⟩) (nle rfl) ?_
  show Wm Z (c, s, sh, R) μ1 1502 (LV Z b (6 * j)) [.int r]
  refine r_aload_n C dL_law_1502 1 rfl ?_
  refine r_aload_n C dL_law_1503 3 rfl ?_
  refine r_iload_n C dL_law_1504 0 rfl ?_
  refine r_iconst C dL_law_1505 ic_1 ?_
  refine r_iadd C dL_law_1506 ?_
  refine r_xld (q := 6 * j + 1) hX hbl hbA C dL_law_1507 (nI_add (6 * j) 1) (by omega) hL ?_
  refine r_callV (G := (c, s, sh, R)) (a := 139) (As := [.int (xs (6 * j + 1))]) (rest := [.int r]) C mlL_186 dL_law_1508 (tX12_pairs (l := Z.1.2.1) (w := zw Z) hY 5001 (xs (6 * j + 1)) e2) rfl rfl (ly139 hY) rfl (by rw [hRm]; exact ⟨nle rfl, nle rfl⟩) (by rw [hRm]; exact ⟨hc, hs⟩) (nle rfl) ?_
  show Wm Z (c, s, sh, R) μ2 1511 (LV Z b (6 * j)) [.int r, .int r]
  refine r_icmp_eq 1735 C dL_law_1511 (by decide) (fun _ => ?_) (fun c => absurd rfl c)
  exact kk _ _ sh R μ2 (by omega) (by omega) e3 hY
set_option maxRecDepth 100000 in
set_option maxHeartbeats 4000000 in
theorem lc42 {Z : ZC} {b L j c s : Nat} {xs : Nat → Int32} {sh : List Sh} {R : Rf} {μ : Mu} (hW : LW Z b L xs) (hI : INV j sh R μ) (hY : LY sh R) (hq : 6 * j + 6 ≤ L) (hc : c + 19 ≤ 600000) (hs : s + 1107 ≤ 7302250) (kk : LN Z b j c s) : Wm Z (c, s, sh, R) μ 1516 (LV Z b (6 * j)) [] := by
  obtain ⟨C, hRm, hX, hbl, hbA, hL⟩ := hW
  have hk : j < 512 := by omega
  have hc : c + 0 ≤ 600000 := by omega
  have hs : s + 0 ≤ 7302250 := by omega
  obtain ⟨r, μ1, μ2, e1, e2, e3⟩ := m_numbers (n := 5001) (k := j) (x := (xs (6 * j + 1))) (y := (xs (6 * j + 2))) (z := (xs (6 * j + 3))) hI hk (by decide)
  refine r_aload_n C dL_law_1516 2 rfl ?_
  refine r_aload_n C dL_law_1517 3 rfl ?_
  refine r_iload_n C dL_law_1518 0 rfl ?_
  refine r_iconst C dL_law_1519 ic_1 ?_
  refine r_iadd C dL_law_1520 ?_
  refine r_xld (q := 6 * j + 1) hX hbl hbA C dL_law_1521 (nI_add (6 * j) 1) (by omega) hL ?_
  refine r_aload_n C dL_law_1522 3 rfl ?_
  refine r_iload_n C dL_law_1523 0 rfl ?_
  refine r_iconst C dL_law_1524 ic_2 ?_
  refine r_iadd C dL_law_1525 ?_
  refine r_xld (q := 6 * j + 2) hX hbl hbA C dL_law_1526 (nI_add (6 * j) 2) (by omega) hL ?_
  refine r_aload_n C dL_law_1527 3 rfl ?_
  refine r_iload_n C dL_law_1528 0 rfl ?_
  refine r_iconst C dL_law_1529 ic_3 ?_
  refine r_iadd C dL_law_1530 ?_
  refine r_xld (q := 6 * j + 3) hX hbl hbA C dL_law_1531 (nI_add (6 * j) 3) (by omega) hL ?_
  refine r_callV (G := (c, s, sh, R)) (a := 0) (As := [.int (xs (6 * j + 1)), .int (xs (6 * j + 2)), .int (xs (6 * j + 3))]) (rest := []) C mlL_187 dL_law_1532 (tX11_numbers (l := Z.1.2.1) (w := zw Z) hY 5001 (xs (6 * j + 1)) (xs (6 * j + 2)) (xs (6 * j + 3)) e1) rfl rfl (ly0 hY) rfl (by rw [hRm]; exact ⟨nle rfl, nle rfl⟩) (by rw [hRm]; exact ⟨hc, hs⟩) (nle rfl) ?_
  show Wm Z (c, s, sh, R) μ1 1535 (LV Z b (6 * j)) [.int r]
  refine r_aload_n C dL_law_1535 1 rfl ?_
  refine r_aload_n C dL_law_1536 3 rfl ?_
  refine r_iload_n C dL_law_1537 0 rfl ?_
  refine r_iconst C dL_law_1538 ic_1 ?_
  refine r_iadd C dL_law_1539 ?_
  refine r_xld (q := 6 * j + 1) hX hbl hbA C dL_law_1540 (nI_add (6 * j) 1) (by omega) hL ?_
  refine r_aload_n C dL_law_1541 3 rfl ?_
  refine r_iload_n C dL_law_1542 0 rfl ?_
  refine r_iconst C dL_law_1543 ic_2 ?_
  refine r_iadd C dL_law_1544 ?_
  refine r_xld (q := 6 * j + 2) hX hbl hbA C dL_law_1545 (nI_add (6 * j) 2) (by omega) hL ?_
  refine r_aload_n C dL_law_1546 3 rfl ?_
  refine r_iload_n C dL_law_1547 0 rfl ?_
  refine r_iconst C dL_law_1548 ic_3 ?_
  refine r_iadd C dL_law_1549 ?_
  refine r_xld (q := 6 * j + 3) hX hbl hbA C dL_law_1550 (nI_add (6 * j) 3) (by omega) hL ?_
  refine r_callV (G := (c, s, sh, R)) (a := 139) (As := [.int (xs (6 * j + 1)), .int (xs (6 * j + 2)), .int (xs (6 * j + 3))]) (rest := [.int r]) C mlL_190 dL_law_1551 (tX12_numbers (l := Z.1.2.1) (w := zw Z) hY 5001 (xs (6 * j + 1)) (xs (6 * j + 2)) (xs (6 * j + 3)) e2) rfl rfl (ly139 hY) rfl (by rw [hRm]; exact ⟨nle rfl, nle rfl⟩) (by rw [hRm]; exact ⟨hc, hs⟩) (nle rfl) ?_
  show Wm Z (c, s, sh, R) μ2 1554 (LV Z b (6 * j)) [.int r, .int r]
  refine r_icmp_eq 1735 C dL_law_1554 (by decide) (fun _ => ?_) (fun c => absurd rfl c)
  exact kk _ _ sh R μ2 (by omega) (by omega) e3 hY
set_option maxRecDepth 100000 in
set_option maxHeartbeats 4000000 in
theorem lc43 {Z : ZC} {b L j c s : Nat} {xs : Nat → Int32} {sh : List Sh} {R : Rf} {μ : Mu} (hW : LW Z b L xs) (hI : INV j sh R μ) (hY : LY sh R) (hq : 6 * j + 6 ≤ L) (hc : c + 19 ≤ 600000) (hs : s + 1107 ≤ 7302250) (kk : LN Z b j c s) : Wm Z (c, s, sh, R) μ 1559 (LV Z b (6 * j)) [] := by
  obtain ⟨C, hRm, hX, hbl, hbA, hL⟩ := hW
  have hk : j < 512 := by omega
  have hc : c + 0 ≤ 600000 := by omega
  have hs : s + 0 ≤ 7302250 := by omega
  obtain ⟨r, μ1, μ2, e1, e2, e3⟩ := m_write (n := 5001) (k := j) (x := (xs (6 * j + 1))) (y := (xs (6 * j + 2))) (v := ((((xs (6 * j + 3))).toInt64 <<< ((32 : Int32).toInt64 &&& 63)) ||| (((xs (6 * j + 4))).toInt64 &&& 4294967295))) hI
  refine r_aload_n C dL_law_1559 2 rfl ?_
  refine r_aload_n C dL_law_1560 3 rfl ?_
  refine r_iload_n C dL_law_1561 0 rfl ?_
  refine r_iconst C dL_law_1562 ic_1 ?_
  refine r_iadd C dL_law_1563 ?_
  refine r_xld (q := 6 * j + 1) hX hbl hbA C dL_law_1564 (nI_add (6 * j) 1) (by omega) hL ?_
  refine r_aload_n C dL_law_1565 3 rfl ?_
  refine r_iload_n C dL_law_1566 0 rfl ?_
  refine r_iconst C dL_law_1567 ic_2 ?_
  refine r_iadd C dL_law_1568 ?_
  refine r_xld (q := 6 * j + 2) hX hbl hbA C dL_law_1569 (nI_add (6 * j) 2) (by omega) hL ?_
  refine r_aload_n C dL_law_1570 3 rfl ?_
  refine r_iload_n C dL_law_1571 0 rfl ?_
  refine r_iconst C dL_law_1572 ic_3 ?_
  refine r_iadd C dL_law_1573 ?_
  refine r_xld (q := 6 * j + 3) hX hbl hbA C dL_law_1574 (nI_add (6 * j) 3) (by omega) hL ?_
  refine r_i2l C dL_law_1575 ?_
  refine r_bipush (v := 32) C dL_law_1576 (by decide) ?_
  refine r_lshl C dL_law_1578 ?_
  refine r_aload_n C dL_law_1579 3 rfl ?_
  refine r_iload_n C dL_law_1580 0 rfl ?_
  refine r_iconst C dL_law_1581 ic_4 ?_
  refine r_iadd C dL_law_1582 ?_
  refine r_xld (q := 6 * j + 4) hX hbl hbA C dL_law_1583 (nI_add (6 * j) 4) (by omega) hL ?_
  refine r_i2l C dL_law_1584 ?_
  refine r_ldc2 C dL_law_1585 klL_191 ?_
  refine r_land C dL_law_1588 ?_
  refine r_lor C dL_law_1589 ?_
  refine r_callV (G := (c, s, sh, R)) (a := 0) (As := [.int (xs (6 * j + 1)), .int (xs (6 * j + 2)), .long ((((xs (6 * j + 3))).toInt64 <<< ((32 : Int32).toInt64 &&& 63)) ||| (((xs (6 * j + 4))).toInt64 &&& 4294967295))]) (rest := []) C mlL_193 dL_law_1590 (tX11_write (l := Z.1.2.1) (w := zw Z) hY 5001 (xs (6 * j + 1)) (xs (6 * j + 2)) ((((xs (6 * j + 3))).toInt64 <<< ((32 : Int32).toInt64 &&& 63)) ||| (((xs (6 * j + 4))).toInt64 &&& 4294967295)) e1) rfl rfl (ly0 hY) rfl (by rw [hRm]; exact ⟨nle rfl, nle rfl⟩) (by rw [hRm]; exact ⟨hc, hs⟩) (nle rfl) ?_
  show Wm Z (c, s, sh, R) μ1 1593 (LV Z b (6 * j)) [.long r]
  refine r_aload_n C dL_law_1593 1 rfl ?_
  refine r_aload_n C dL_law_1594 3 rfl ?_
  refine r_iload_n C dL_law_1595 0 rfl ?_
  refine r_iconst C dL_law_1596 ic_1 ?_
  refine r_iadd C dL_law_1597 ?_
  refine r_xld (q := 6 * j + 1) hX hbl hbA C dL_law_1598 (nI_add (6 * j) 1) (by omega) hL ?_
  refine r_aload_n C dL_law_1599 3 rfl ?_
  refine r_iload_n C dL_law_1600 0 rfl ?_
  refine r_iconst C dL_law_1601 ic_2 ?_
  refine r_iadd C dL_law_1602 ?_
  refine r_xld (q := 6 * j + 2) hX hbl hbA C dL_law_1603 (nI_add (6 * j) 2) (by omega) hL ?_
  refine r_aload_n C dL_law_1604 3 rfl ?_
  refine r_iload_n C dL_law_1605 0 rfl ?_
  refine r_iconst C dL_law_1606 ic_3 ?_
  refine r_iadd C dL_law_1607 ?_
  refine r_xld (q := 6 * j + 3) hX hbl hbA C dL_law_1608 (nI_add (6 * j) 3) (by omega) hL ?_
  refine r_i2l C dL_law_1609 ?_
  refine r_bipush (v := 32) C dL_law_1610 (by decide) ?_
  refine r_lshl C dL_law_1612 ?_
  refine r_aload_n C dL_law_1613 3 rfl ?_
  refine r_iload_n C dL_law_1614 0 rfl ?_
  refine r_iconst C dL_law_1615 ic_4 ?_
  refine r_iadd C dL_law_1616 ?_
  refine r_xld (q := 6 * j + 4) hX hbl hbA C dL_law_1617 (nI_add (6 * j) 4) (by omega) hL ?_
  refine r_i2l C dL_law_1618 ?_
  refine r_ldc2 C dL_law_1619 klL_191 ?_
  refine r_land C dL_law_1622 ?_
  refine r_lor C dL_law_1623 ?_
  refine r_callV (G := (c, s, sh, R)) (a := 139) (As := [.int (xs (6 * j + 1)), .int (xs (6 * j + 2)), .long ((((xs (6 * j + 3))).toInt64 <<< ((32 : Int32).toInt64 &&& 63)) ||| (((xs (6 * j + 4))).toInt64 &&& 4294967295))]) (rest := [.long r]) C mlL_197 dL_law_1624 (tX12_write (l := Z.1.2.1) (w := zw Z) hY 5001 (xs (6 * j + 1)) (xs (6 * j + 2)) ((((xs (6 * j + 3))).toInt64 <<< ((32 : Int32).toInt64 &&& 63)) ||| (((xs (6 * j + 4))).toInt64 &&& 4294967295)) e2) rfl rfl (ly139 hY) rfl (by rw [hRm]; exact ⟨nle rfl, nle rfl⟩) (by rw [hRm]; exact ⟨hc, hs⟩) (nle rfl) ?_
  show Wm Z (c, s, sh, R) μ2 1627 (LV Z b (6 * j)) [.long r, .long r]
  refine r_lcmp C dL_law_1627 ?_
  refine r_if_eq 1735 C dL_law_1628 (by decide) (fun _ => ?_) (fun c => absurd (cmp_self _) c)
  exact kk _ _ sh R μ2 (by omega) (by omega) e3 hY
set_option maxRecDepth 100000 in
set_option maxHeartbeats 4000000 in
theorem lc44 {Z : ZC} {b L j c s : Nat} {xs : Nat → Int32} {sh : List Sh} {R : Rf} {μ : Mu} (hW : LW Z b L xs) (hI : INV j sh R μ) (hY : LY sh R) (hq : 6 * j + 6 ≤ L) (hc : c + 19 ≤ 600000) (hs : s + 1107 ≤ 7302250) (kk : LN Z b j c s) : Wm Z (c, s, sh, R) μ 1633 (LV Z b (6 * j)) [] := by
  obtain ⟨C, hRm, hX, hbl, hbA, hL⟩ := hW
  have hk : j < 512 := by omega
  have hc : c + 0 ≤ 600000 := by omega
  have hs : s + 0 ≤ 7302250 := by omega
  obtain ⟨r, μ1, μ2, e1, e2, e3⟩ := m_lists (n := 5001) (k := j) (x := (xs (6 * j + 1))) (y := (xs (6 * j + 2))) hI hk (by decide)
  refine r_aload_n C dL_law_1633 2 rfl ?_
  refine r_aload_n C dL_law_1634 3 rfl ?_
  refine r_iload_n C dL_law_1635 0 rfl ?_
  refine r_iconst C dL_law_1636 ic_1 ?_
  refine r_iadd C dL_law_1637 ?_
  refine r_xld (q := 6 * j + 1) hX hbl hbA C dL_law_1638 (nI_add (6 * j) 1) (by omega) hL ?_
  refine r_aload_n C dL_law_1639 3 rfl ?_
  refine r_iload_n C dL_law_1640 0 rfl ?_
  refine r_iconst C dL_law_1641 ic_2 ?_
  refine r_iadd C dL_law_1642 ?_
  refine r_xld (q := 6 * j + 2) hX hbl hbA C dL_law_1643 (nI_add (6 * j) 2) (by omega) hL ?_
  refine r_callV (G := (c, s, sh, R)) (a := 0) (As := [.int (xs (6 * j + 1)), .int (xs (6 * j + 2))]) (rest := []) C mlL_198 dL_law_1644 (tX11_lists (l := Z.1.2.1) (w := zw Z) hY 5001 (xs (6 * j + 1)) (xs (6 * j + 2)) e1) rfl rfl (ly0 hY) rfl (by rw [hRm]; exact ⟨nle rfl, nle rfl⟩) (by rw [hRm]; exact ⟨hc, hs⟩) (nle rfl) ?_
  show Wm Z (c, s, sh, R) μ1 1647 (LV Z b (6 * j)) [.int r]
  refine r_aload_n C dL_law_1647 1 rfl ?_
  refine r_aload_n C dL_law_1648 3 rfl ?_
  refine r_iload_n C dL_law_1649 0 rfl ?_
  refine r_iconst C dL_law_1650 ic_1 ?_
  refine r_iadd C dL_law_1651 ?_
  refine r_xld (q := 6 * j + 1) hX hbl hbA C dL_law_1652 (nI_add (6 * j) 1) (by omega) hL ?_
  refine r_aload_n C dL_law_1653 3 rfl ?_
  refine r_iload_n C dL_law_1654 0 rfl ?_
  refine r_iconst C dL_law_1655 ic_2 ?_
  refine r_iadd C dL_law_1656 ?_
  refine r_xld (q := 6 * j + 2) hX hbl hbA C dL_law_1657 (nI_add (6 * j) 2) (by omega) hL ?_
  refine r_callV (G := (c, s, sh, R)) (a := 139) (As := [.int (xs (6 * j + 1)), .int (xs (6 * j + 2))]) (rest := [.int r]) C mlL_201 dL_law_1658 (tX12_lists (l := Z.1.2.1) (w := zw Z) hY 5001 (xs (6 * j + 1)) (xs (6 * j + 2)) e2) rfl rfl (ly139 hY) rfl (by rw [hRm]; exact ⟨nle rfl, nle rfl⟩) (by rw [hRm]; exact ⟨hc, hs⟩) (nle rfl) ?_
  show Wm Z (c, s, sh, R) μ2 1661 (LV Z b (6 * j)) [.int r, .int r]
  refine r_icmp_eq 1735 C dL_law_1661 (by decide) (fun _ => ?_) (fun c => absurd rfl c)
  exact kk _ _ sh R μ2 (by omega) (by omega) e3 hY
set_option maxRecDepth 100000 in
set_option maxHeartbeats 4000000 in
theorem lc45 {Z : ZC} {b L j c s : Nat} {xs : Nat → Int32} {sh : List Sh} {R : Rf} {μ : Mu} (hW : LW Z b L xs) (hI : INV j sh R μ) (hY : LY sh R) (hq : 6 * j + 6 ≤ L) (hc : c + 19 ≤ 600000) (hs : s + 1107 ≤ 7302250) (kk : LN Z b j c s) : Wm Z (c, s, sh, R) μ 1666 (LV Z b (6 * j)) [] := by
  obtain ⟨C, hRm, hX, hbl, hbA, hL⟩ := hW
  have hk : j < 512 := by omega
  obtain ⟨r, sh', R', μ1, μ2, e1, e2, e3, e4⟩ := m_image (n := 5001) (k := j) (x := (xs (6 * j + 1))) hI hY (by decide)
  refine r_aload_n C dL_law_1666 2 rfl ?_
  refine r_aload_n C dL_law_1667 3 rfl ?_
  refine r_iload_n C dL_law_1668 0 rfl ?_
  refine r_iconst C dL_law_1669 ic_1 ?_
  refine r_iadd C dL_law_1670 ?_
  refine r_xld (q := 6 * j + 1) hX hbl hbA C dL_law_1671 (nI_add (6 * j) 1) (by omega) hL ?_
  refine r_callV (G := (c, s, sh, R)) (a := 0) (As := [.int (xs (6 * j + 1))]) (rest := []) C mlL_202 dL_law_1672 (e1 Z.1.2.1 (zw Z)) rfl rfl (ly0 hY) rfl (by rw [hRm]; exact ⟨nle rfl, nle rfl⟩) (by rw [hRm]; exact ⟨hc, hs⟩) (nle rfl) ?_
  show Wm Z (c + 19, s + 1107, sh', R') μ1 1675 (LV Z b (6 * j)) [.int r]
  refine r_aload_n C dL_law_1675 1 rfl ?_
  refine r_aload_n C dL_law_1676 3 rfl ?_
  refine r_iload_n C dL_law_1677 0 rfl ?_
  refine r_iconst C dL_law_1678 ic_1 ?_
  refine r_iadd C dL_law_1679 ?_
  refine r_xld (q := 6 * j + 1) hX hbl hbA C dL_law_1680 (nI_add (6 * j) 1) (by omega) hL ?_
  refine r_callV (G := (c + 19, s + 1107, sh', R')) (a := 139) (As := [.int (xs (6 * j + 1))]) (rest := [.int r]) C mlL_205 dL_law_1681 (tX12_image (l := Z.1.2.1) (w := zw Z) e4 5001 (xs (6 * j + 1)) e2) rfl rfl (ly139 e4) rfl (by rw [hRm]; exact ⟨nle rfl, nle rfl⟩) (by rw [hRm]; exact ⟨hc, hs⟩) (nle rfl) ?_
  show Wm Z (c + 19, s + 1107, sh', R') μ2 1684 (LV Z b (6 * j)) [.int r, .int r]
  refine r_icmp_eq 1735 C dL_law_1684 (by decide) (fun _ => ?_) (fun c => absurd rfl c)
  exact kk _ _ sh' R' μ2 (Nat.le_refl _) (Nat.le_refl _) e3 e4
set_option maxRecDepth 100000 in
set_option maxHeartbeats 4000000 in
theorem lc46 {Z : ZC} {b L j c s : Nat} {xs : Nat → Int32} {sh : List Sh} {R : Rf} {μ : Mu} (hW : LW Z b L xs) (hI : INV j sh R μ) (hY : LY sh R) (hq : 6 * j + 6 ≤ L) (hc : c + 19 ≤ 600000) (hs : s + 1107 ≤ 7302250) (kk : LN Z b j c s) : Wm Z (c, s, sh, R) μ 1689 (LV Z b (6 * j)) [] := by
  obtain ⟨C, hRm, hX, hbl, hbA, hL⟩ := hW
  have hk : j < 512 := by omega
  have hc : c + 0 ≤ 600000 := by omega
  have hs : s + 0 ≤ 7302250 := by omega
  obtain ⟨r, μ1, μ2, e1, e2, e3⟩ := m_restore (n := 5001) (k := j) (x := (xs (6 * j + 1))) hI hY (by decide)
  refine r_aload_n C dL_law_1689 2 rfl ?_
  refine r_aload_n C dL_law_1690 3 rfl ?_
  refine r_iload_n C dL_law_1691 0 rfl ?_
  refine r_iconst C dL_law_1692 ic_1 ?_
  refine r_iadd C dL_law_1693 ?_
  refine r_xld (q := 6 * j + 1) hX hbl hbA C dL_law_1694 (nI_add (6 * j) 1) (by omega) hL ?_
  refine r_callV (G := (c, s, sh, R)) (a := 0) (As := [.int (xs (6 * j + 1))]) (rest := []) C mlL_206 dL_law_1695 (e1 Z.1.2.1 (zw Z)) rfl rfl (ly0 hY) rfl (by rw [hRm]; exact ⟨nle rfl, nle rfl⟩) (by rw [hRm]; exact ⟨hc, hs⟩) (nle rfl) ?_
  show Wm Z (c, s, sh, R) μ1 1698 (LV Z b (6 * j)) [.int r]
  refine r_aload_n C dL_law_1698 1 rfl ?_
  refine r_aload_n C dL_law_1699 3 rfl ?_
  refine r_iload_n C dL_law_1700 0 rfl ?_
  refine r_iconst C dL_law_1701 ic_1 ?_
  refine r_iadd C dL_law_1702 ?_
  refine r_xld (q := 6 * j + 1) hX hbl hbA C dL_law_1703 (nI_add (6 * j) 1) (by omega) hL ?_
  refine r_callV (G := (c, s, sh, R)) (a := 139) (As := [.int (xs (6 * j + 1))]) (rest := [.int r]) C mlL_209 dL_law_1704 (tX12_restore (l := Z.1.2.1) (w := zw Z) hY 5001 (xs (6 * j + 1)) e2) rfl rfl (ly139 hY) rfl (by rw [hRm]; exact ⟨nle rfl, nle rfl⟩) (by rw [hRm]; exact ⟨hc, hs⟩) (nle rfl) ?_
  show Wm Z (c, s, sh, R) μ2 1707 (LV Z b (6 * j)) [.int r, .int r]
  refine r_icmp_eq 1735 C dL_law_1707 (by decide) (fun _ => ?_) (fun c => absurd rfl c)
  exact kk _ _ sh R μ2 (by omega) (by omega) e3 hY
set_option maxRecDepth 100000 in
set_option maxHeartbeats 4000000 in
theorem lc47 {Z : ZC} {b L j c s : Nat} {xs : Nat → Int32} {sh : List Sh} {R : Rf} {μ : Mu} (hW : LW Z b L xs) (hI : INV j sh R μ) (hY : LY sh R) (hq : 6 * j + 6 ≤ L) (hc : c + 19 ≤ 600000) (hs : s + 1107 ≤ 7302250) (kk : LN Z b j c s) : Wm Z (c, s, sh, R) μ 1712 (LV Z b (6 * j)) [] := by
  obtain ⟨C, hRm, hX, hbl, hbA, hL⟩ := hW
  have hk : j < 512 := by omega
  have hc : c + 0 ≤ 600000 := by omega
  have hs : s + 0 ≤ 7302250 := by omega
  obtain ⟨r, μ1, μ2, e1, e2, e3⟩ := m_count (n := 5001) (k := j) (x := (xs (6 * j + 1))) hI
  obtain ⟨r0, e5, e0⟩ := bnd_inv e1
  obtain ⟨h1, h2⟩ := Prod.mk.inj (Option.some.inj e0)
  subst h1; subst h2
  refine r_aload_n C dL_law_1712 2 rfl ?_
  refine r_aload_n C dL_law_1713 3 rfl ?_
  refine r_iload_n C dL_law_1714 0 rfl ?_
  refine r_iconst C dL_law_1715 ic_1 ?_
  refine r_iadd C dL_law_1716 ?_
  refine r_xld (q := 6 * j + 1) hX hbl hbA C dL_law_1717 (nI_add (6 * j) 1) (by omega) hL ?_
  refine r_callV (G := (c, s, sh, R)) (a := 0) (As := [.int (xs (6 * j + 1))]) (rest := []) C mlL_210 dL_law_1718 (tX11_count (l := Z.1.2.1) (w := zw Z) hY 5001 (xs (6 * j + 1)) e5) rfl rfl (ly0 hY) rfl (by rw [hRm]; exact ⟨nle rfl, nle rfl⟩) (by rw [hRm]; exact ⟨hc, hs⟩) (nle rfl) ?_
  show Wm Z (c, s, sh, R) μ 1721 (LV Z b (6 * j)) [.int r0]
  refine r_aload_n C dL_law_1721 1 rfl ?_
  refine r_aload_n C dL_law_1722 3 rfl ?_
  refine r_iload_n C dL_law_1723 0 rfl ?_
  refine r_iconst C dL_law_1724 ic_1 ?_
  refine r_iadd C dL_law_1725 ?_
  refine r_xld (q := 6 * j + 1) hX hbl hbA C dL_law_1726 (nI_add (6 * j) 1) (by omega) hL ?_
  refine r_callV (G := (c, s, sh, R)) (a := 139) (As := [.int (xs (6 * j + 1))]) (rest := [.int r0]) C mlL_213 dL_law_1727 (tX12_count (l := Z.1.2.1) (w := zw Z) hY 5001 (xs (6 * j + 1)) e2) rfl rfl (ly139 hY) rfl (by rw [hRm]; exact ⟨nle rfl, nle rfl⟩) (by rw [hRm]; exact ⟨hc, hs⟩) (nle rfl) ?_
  show Wm Z (c, s, sh, R) μ2 1730 (LV Z b (6 * j)) [.int r0, .int r0]
  refine r_icmp_eq 1735 C dL_law_1730 (by decide) (fun _ => ?_) (fun c => absurd rfl c)
  exact kk _ _ sh R μ2 (by omega) (by omega) e3 hY
