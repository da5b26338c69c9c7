/-! THE LAW, 2: a theorem a case -/
section LAWC
variable {p : Program} {l : Launch} {e : Env} {s : State} {m : MethodId} {below : List Frame} {meth : Method} {cd : Code} {b L : Nat} {sc : Nat → Int32} {D : va_G} {c : Nat → ClassId} {tb : Nat} {sa sv : Nat → Nat} {a : Nat → Nat → Nat} {X : XS} {a9 : Nat → Nat} {σ : Mem} {H : Heap} {locs : List Loc} {ls : Array Slot} {x3 : Int32} {i : Nat}
set_option maxRecDepth 100000 in
set_option maxHeartbeats 4000000 in
/-- feed -/
theorem law_case0 (C : LC p s m meth cd b L sc D c tb sa sv) (hR : Rel X σ) (hW : L2 D (fun q : Nat => s.heap.size ≤ q) (wX a c X) (wX9 a9 c σ) H) (hS : va_S (fun q : Nat => s.heap.size ≤ q) s.heap H locs) (e3 : x3 = nI i) (hi : i + 7 ≤ L) (hl : lv_has ls 4 (lwl a a9 b x3)) (KK : LKK p l e s m below meth cd b D c a a9 ls) : LW p l e s m below meth cd b H locs 168 ls [] := by
  obtain ⟨⟨hx, hb, hr, hml, hown, hts, hX, hbl, hlocks, hgv⟩, hL, hK, hE⟩ := id C
  have hA : ∀ q : Nat, s.heap.size ≤ q → (fun q : Nat => s.heap.size ≤ q) q := fun _ h => h
  have hown : s.vm.findClass RL = some m.cls := hown
  have hts9 : ∀ w ∈ wsL_law, w.before #[Value.ref b] s = true := fun w h => hts w (wsL_law_in w h)
  obtain ⟨r, X1, σ1, q8, q9, hR1⟩ := sim_feed hR (sc (x3 + nI 1).toNatClampNeg) (sc (x3 + nI 2).toNatClampNeg) (sc (x3 + nI 3).toNatClampNeg) (sc (x3 + nI 4).toNatClampNeg) (sc (x3 + nI 5).toNatClampNeg) (sc (x3 + nI 6).toNatClampNeg)
  refine lv_aload_n hx hb dL_law_168 rfl (lv_at hl 1 rfl) ?_
  refine law_ld (k := nI 1) C hS hl dL_law_169 dL_law_170 dL_law_171 dL_law_172 dL_law_173 (by decide) (law_in e3 hi hL rfl (by decide)) ?_
  refine law_ld (k := nI 2) C hS hl dL_law_174 dL_law_175 dL_law_176 dL_law_177 dL_law_178 (by decide) (law_in e3 hi hL rfl (by decide)) ?_
  refine law_ld (k := nI 3) C hS hl dL_law_179 dL_law_180 dL_law_181 dL_law_182 dL_law_183 (by decide) (law_in e3 hi hL rfl (by decide)) ?_
  refine law_ld (k := nI 4) C hS hl dL_law_184 dL_law_185 dL_law_186 dL_law_187 dL_law_188 (by decide) (law_in e3 hi hL rfl (by decide)) ?_
  refine law_ld (k := nI 5) C hS hl dL_law_189 dL_law_190 dL_law_191 dL_law_192 dL_law_193 (by decide) (law_in e3 hi hL rfl (by decide)) ?_
  refine law_ldb (k := nI 6) C hS hl dL_law_194 dL_law_195 dL_law_196 dL_law_198 dL_law_199 (by decide) (law_in e3 hi hL rfl (by decide)) ?_
  refine g_two (w1 := wX a c X1) (st1 := [.int r]) (gr_V (n := 6) (rest := []) (pc := 200) hx hb hml hown hts9 (cX8_feed_met l D c tb sa sv a (sc (x3 + nI 1).toNatClampNeg) (sc (x3 + nI 2).toNatClampNeg) (sc (x3 + nI 3).toNatClampNeg) (sc (x3 + nI 4).toNatClampNeg) (sc (x3 + nI 5).toNatClampNeg) (sc (x3 + nI 6).toNatClampNeg) X r X1 q8) gL_law_X8_feed rfl rfl rfl (by decide +kernel) rfl ⟨Nat.le_of_ble_eq_true rfl, Nat.le_of_ble_eq_true rfl⟩ ⟨Nat.le_of_ble_eq_true rfl, Nat.le_of_ble_eq_true rfl⟩ 0 8 rfl rfl rfl xE_ok hW.1 hW.2.2.1 hK (xE_ok.tr hE hS (g_free hW.2.2.1 hS hA)) hl.1 (Nat.le_of_ble_eq_true rfl) dL_law_200 rfl) hW hS hA rfl (fun H locs hW hS => ?_)
  refine lv_aload_n hx hb dL_law_203 rfl (lv_at hl 2 rfl) ?_
  refine law_ld (k := nI 1) C hS hl dL_law_204 dL_law_205 dL_law_206 dL_law_207 dL_law_208 (by decide) (law_in e3 hi hL rfl (by decide)) ?_
  refine law_ld (k := nI 2) C hS hl dL_law_209 dL_law_210 dL_law_211 dL_law_212 dL_law_213 (by decide) (law_in e3 hi hL rfl (by decide)) ?_
  refine law_ld (k := nI 3) C hS hl dL_law_214 dL_law_215 dL_law_216 dL_law_217 dL_law_218 (by decide) (law_in e3 hi hL rfl (by decide)) ?_
  refine law_ld (k := nI 4) C hS hl dL_law_219 dL_law_220 dL_law_221 dL_law_222 dL_law_223 (by decide) (law_in e3 hi hL rfl (by decide)) ?_
  refine law_ld (k := nI 5) C hS hl dL_law_224 dL_law_225 dL_law_226 dL_law_227 dL_law_228 (by decide) (law_in e3 hi hL rfl (by decide)) ?_
  refine law_ldb (k := nI 6) C hS hl dL_law_229 dL_law_230 dL_law_231 dL_law_233 dL_law_234 (by decide) (law_in e3 hi hL rfl (by decide)) ?_
  refine g_two (w1 := wX9 a9 c σ1) (st1 := [.int r, .int r]) (gr_V (n := 6) (rest := [.int r]) (pc := 235) hx hb hml hown hts9 (cX9_feed_met l D c a9 (sc (x3 + nI 1).toNatClampNeg) (sc (x3 + nI 2).toNatClampNeg) (sc (x3 + nI 3).toNatClampNeg) (sc (x3 + nI 4).toNatClampNeg) (sc (x3 + nI 5).toNatClampNeg) (sc (x3 + nI 6).toNatClampNeg) σ r σ1 q9) gL_law_X9_feed rfl rfl rfl (by decide +kernel) rfl ⟨Nat.le_of_ble_eq_true rfl, Nat.le_of_ble_eq_true rfl⟩ ⟨Nat.le_of_ble_eq_true rfl, Nat.le_of_ble_eq_true rfl⟩ 0 9 rfl rfl rfl gT_ok hW.2.1 hW.2.2.2.1 hK (fun _ _ _ => trivial) hl.1 (Nat.le_of_ble_eq_true rfl) dL_law_235 rfl) hW.swap hS hA rfl (fun H locs hW hS => ?_)
  have hW := hW.swap
  exact lv_icmp_eq (tgt := 1111) hx hb dL_law_238 (by decide) (fun _ => KK X1 σ1 H locs hR1 hW hS) (fun q => absurd rfl q)
set_option maxRecDepth 100000 in
set_option maxHeartbeats 4000000 in
/-- text -/
theorem law_case1 (C : LC p s m meth cd b L sc D c tb sa sv) (hR : Rel X σ) (hW : L2 D (fun q : Nat => s.heap.size ≤ q) (wX a c X) (wX9 a9 c σ) H) (hS : va_S (fun q : Nat => s.heap.size ≤ q) s.heap H locs) (e3 : x3 = nI i) (hi : i + 7 ≤ L) (hl : lv_has ls 4 (lwl a a9 b x3)) (KK : LKK p l e s m below meth cd b D c a a9 ls) : LW p l e s m below meth cd b H locs 243 ls [] := by
  obtain ⟨⟨hx, hb, hr, hml, hown, hts, hX, hbl, hlocks, hgv⟩, hL, hK, hE⟩ := id C
  have hA : ∀ q : Nat, s.heap.size ≤ q → (fun q : Nat => s.heap.size ≤ q) q := fun _ h => h
  have hown : s.vm.findClass RL = some m.cls := hown
  have hts9 : ∀ w ∈ wsL_law, w.before #[Value.ref b] s = true := fun w h => hts w (wsL_law_in w h)
  obtain ⟨r, X1, σ1, q8, q9, hR1⟩ := sim_text hR 
  refine lv_aload_n hx hb dL_law_243 rfl (lv_at hl 1 rfl) ?_
  refine g_two (w1 := wX a c X1) (st1 := [.int r]) (gr_V (n := 0) (rest := []) (pc := 244) hx hb hml hown hts9 (cX8_text_met l D c tb sa sv a  X r X1 q8) gL_law_X8_text rfl rfl rfl (by decide +kernel) rfl ⟨Nat.le_of_ble_eq_true rfl, Nat.le_of_ble_eq_true rfl⟩ ⟨Nat.le_of_ble_eq_true rfl, Nat.le_of_ble_eq_true rfl⟩ 0 8 rfl rfl rfl xE_ok hW.1 hW.2.2.1 hK (xE_ok.tr hE hS (g_free hW.2.2.1 hS hA)) hl.1 (Nat.le_of_ble_eq_true rfl) dL_law_244 rfl) hW hS hA rfl (fun H locs hW hS => ?_)
  refine lv_aload_n hx hb dL_law_247 rfl (lv_at hl 2 rfl) ?_
  refine g_two (w1 := wX9 a9 c σ1) (st1 := [.int r, .int r]) (gr_V (n := 0) (rest := [.int r]) (pc := 248) hx hb hml hown hts9 (cX9_text_met l D c a9  σ r σ1 q9) gL_law_X9_text rfl rfl rfl (by decide +kernel) rfl ⟨Nat.le_of_ble_eq_true rfl, Nat.le_of_ble_eq_true rfl⟩ ⟨Nat.le_of_ble_eq_true rfl, Nat.le_of_ble_eq_true rfl⟩ 0 9 rfl rfl rfl gT_ok hW.2.1 hW.2.2.2.1 hK (fun _ _ _ => trivial) hl.1 (Nat.le_of_ble_eq_true rfl) dL_law_248 rfl) hW.swap hS hA rfl (fun H locs hW hS => ?_)
  have hW := hW.swap
  exact lv_icmp_eq (tgt := 1111) hx hb dL_law_251 (by decide) (fun _ => KK X1 σ1 H locs hR1 hW hS) (fun q => absurd rfl q)
set_option maxRecDepth 100000 in
set_option maxHeartbeats 4000000 in
/-- delay -/
theorem law_case2 (C : LC p s m meth cd b L sc D c tb sa sv) (hR : Rel X σ) (hW : L2 D (fun q : Nat => s.heap.size ≤ q) (wX a c X) (wX9 a9 c σ) H) (hS : va_S (fun q : Nat => s.heap.size ≤ q) s.heap H locs) (e3 : x3 = nI i) (hi : i + 7 ≤ L) (hl : lv_has ls 4 (lwl a a9 b x3)) (KK : LKK p l e s m below meth cd b D c a a9 ls) : LW p l e s m below meth cd b H locs 256 ls [] := by
  obtain ⟨⟨hx, hb, hr, hml, hown, hts, hX, hbl, hlocks, hgv⟩, hL, hK, hE⟩ := id C
  have hA : ∀ q : Nat, s.heap.size ≤ q → (fun q : Nat => s.heap.size ≤ q) q := fun _ h => h
  have hown : s.vm.findClass RL = some m.cls := hown
  have hts9 : ∀ w ∈ wsL_law, w.before #[Value.ref b] s = true := fun w h => hts w (wsL_law_in w h)
  obtain ⟨r, X1, σ1, q8, q9, hR1⟩ := sim_delay hR (sc (x3 + nI 1).toNatClampNeg) (sc (x3 + nI 2).toNatClampNeg)
  refine lv_aload_n hx hb dL_law_256 rfl (lv_at hl 1 rfl) ?_
  refine law_ld (k := nI 1) C hS hl dL_law_257 dL_law_258 dL_law_259 dL_law_260 dL_law_261 (by decide) (law_in e3 hi hL rfl (by decide)) ?_
  refine law_ld (k := nI 2) C hS hl dL_law_262 dL_law_263 dL_law_264 dL_law_265 dL_law_266 (by decide) (law_in e3 hi hL rfl (by decide)) ?_
  refine g_two (w1 := wX a c X1) (st1 := [.int r]) (gr_V (n := 2) (rest := []) (pc := 267) hx hb hml hown hts9 (cX8_delay_met l D c tb sa sv a (sc (x3 + nI 1).toNatClampNeg) (sc (x3 + nI 2).toNatClampNeg) X r X1 q8) gL_law_X8_delay rfl rfl rfl (by decide +kernel) rfl ⟨Nat.le_of_ble_eq_true rfl, Nat.le_of_ble_eq_true rfl⟩ ⟨Nat.le_of_ble_eq_true rfl, Nat.le_of_ble_eq_true rfl⟩ 0 8 rfl rfl rfl xE_ok hW.1 hW.2.2.1 hK (xE_ok.tr hE hS (g_free hW.2.2.1 hS hA)) hl.1 (Nat.le_of_ble_eq_true rfl) dL_law_267 rfl) hW hS hA rfl (fun H locs hW hS => ?_)
  refine lv_aload_n hx hb dL_law_270 rfl (lv_at hl 2 rfl) ?_
  refine law_ld (k := nI 1) C hS hl dL_law_271 dL_law_272 dL_law_273 dL_law_274 dL_law_275 (by decide) (law_in e3 hi hL rfl (by decide)) ?_
  refine law_ld (k := nI 2) C hS hl dL_law_276 dL_law_277 dL_law_278 dL_law_279 dL_law_280 (by decide) (law_in e3 hi hL rfl (by decide)) ?_
  refine g_two (w1 := wX9 a9 c σ1) (st1 := [.int r, .int r]) (gr_V (n := 2) (rest := [.int r]) (pc := 281) hx hb hml hown hts9 (cX9_delay_met l D c a9 (sc (x3 + nI 1).toNatClampNeg) (sc (x3 + nI 2).toNatClampNeg) σ r σ1 q9) gL_law_X9_delay rfl rfl rfl (by decide +kernel) rfl ⟨Nat.le_of_ble_eq_true rfl, Nat.le_of_ble_eq_true rfl⟩ ⟨Nat.le_of_ble_eq_true rfl, Nat.le_of_ble_eq_true rfl⟩ 0 9 rfl rfl rfl gT_ok hW.2.1 hW.2.2.2.1 hK (fun _ _ _ => trivial) hl.1 (Nat.le_of_ble_eq_true rfl) dL_law_281 rfl) hW.swap hS hA rfl (fun H locs hW hS => ?_)
  have hW := hW.swap
  exact lv_icmp_eq (tgt := 1111) hx hb dL_law_284 (by decide) (fun _ => KK X1 σ1 H locs hR1 hW hS) (fun q => absurd rfl q)
set_option maxRecDepth 100000 in
set_option maxHeartbeats 4000000 in
/-- drop -/
theorem law_case3 (C : LC p s m meth cd b L sc D c tb sa sv) (hR : Rel X σ) (hW : L2 D (fun q : Nat => s.heap.size ≤ q) (wX a c X) (wX9 a9 c σ) H) (hS : va_S (fun q : Nat => s.heap.size ≤ q) s.heap H locs) (e3 : x3 = nI i) (hi : i + 7 ≤ L) (hl : lv_has ls 4 (lwl a a9 b x3)) (KK : LKK p l e s m below meth cd b D c a a9 ls) : LW p l e s m below meth cd b H locs 289 ls [] := by
  obtain ⟨⟨hx, hb, hr, hml, hown, hts, hX, hbl, hlocks, hgv⟩, hL, hK, hE⟩ := id C
  have hA : ∀ q : Nat, s.heap.size ≤ q → (fun q : Nat => s.heap.size ≤ q) q := fun _ h => h
  have hown : s.vm.findClass RL = some m.cls := hown
  have hts9 : ∀ w ∈ wsL_law, w.before #[Value.ref b] s = true := fun w h => hts w (wsL_law_in w h)
  obtain ⟨r, X1, σ1, q8, q9, hR1⟩ := sim_drop hR 
  refine lv_aload_n hx hb dL_law_289 rfl (lv_at hl 1 rfl) ?_
  refine g_two (w1 := wX a c X1) (st1 := [.int r]) (gr_V (n := 0) (rest := []) (pc := 290) hx hb hml hown hts9 (cX8_drop_met l D c tb sa sv a  X r X1 q8) gL_law_X8_drop rfl rfl rfl (by decide +kernel) rfl ⟨Nat.le_of_ble_eq_true rfl, Nat.le_of_ble_eq_true rfl⟩ ⟨Nat.le_of_ble_eq_true rfl, Nat.le_of_ble_eq_true rfl⟩ 0 8 rfl rfl rfl xE_ok hW.1 hW.2.2.1 hK (xE_ok.tr hE hS (g_free hW.2.2.1 hS hA)) hl.1 (Nat.le_of_ble_eq_true rfl) dL_law_290 rfl) hW hS hA rfl (fun H locs hW hS => ?_)
  refine lv_aload_n hx hb dL_law_293 rfl (lv_at hl 2 rfl) ?_
  refine g_two (w1 := wX9 a9 c σ1) (st1 := [.int r, .int r]) (gr_V (n := 0) (rest := [.int r]) (pc := 294) hx hb hml hown hts9 (cX9_drop_met l D c a9  σ r σ1 q9) gL_law_X9_drop rfl rfl rfl (by decide +kernel) rfl ⟨Nat.le_of_ble_eq_true rfl, Nat.le_of_ble_eq_true rfl⟩ ⟨Nat.le_of_ble_eq_true rfl, Nat.le_of_ble_eq_true rfl⟩ 0 9 rfl rfl rfl gT_ok hW.2.1 hW.2.2.2.1 hK (fun _ _ _ => trivial) hl.1 (Nat.le_of_ble_eq_true rfl) dL_law_294 rfl) hW.swap hS hA rfl (fun H locs hW hS => ?_)
  have hW := hW.swap
  exact lv_icmp_eq (tgt := 1111) hx hb dL_law_297 (by decide) (fun _ => KK X1 σ1 H locs hR1 hW hS) (fun q => absurd rfl q)
set_option maxRecDepth 100000 in
set_option maxHeartbeats 4000000 in
/-- gate -/
theorem law_case4 (C : LC p s m meth cd b L sc D c tb sa sv) (hR : Rel X σ) (hW : L2 D (fun q : Nat => s.heap.size ≤ q) (wX a c X) (wX9 a9 c σ) H) (hS : va_S (fun q : Nat => s.heap.size ≤ q) s.heap H locs) (e3 : x3 = nI i) (hi : i + 7 ≤ L) (hl : lv_has ls 4 (lwl a a9 b x3)) (KK : LKK p l e s m below meth cd b D c a a9 ls) : LW p l e s m below meth cd b H locs 302 ls [] := by
  obtain ⟨⟨hx, hb, hr, hml, hown, hts, hX, hbl, hlocks, hgv⟩, hL, hK, hE⟩ := id C
  have hA : ∀ q : Nat, s.heap.size ≤ q → (fun q : Nat => s.heap.size ≤ q) q := fun _ h => h
  have hown : s.vm.findClass RL = some m.cls := hown
  have hts9 : ∀ w ∈ wsL_law, w.before #[Value.ref b] s = true := fun w h => hts w (wsL_law_in w h)
  obtain ⟨r, X1, q8, q9, hR1⟩ := sim_gate hR (sc (x3 + nI 1).toNatClampNeg) (sc (x3 + nI 2).toNatClampNeg)
  refine lv_aload_n hx hb dL_law_302 rfl (lv_at hl 1 rfl) ?_
  refine law_ld (k := nI 1) C hS hl dL_law_303 dL_law_304 dL_law_305 dL_law_306 dL_law_307 (by decide) (law_in e3 hi hL rfl (by decide)) ?_
  refine law_ld (k := nI 2) C hS hl dL_law_308 dL_law_309 dL_law_310 dL_law_311 dL_law_312 (by decide) (law_in e3 hi hL rfl (by decide)) ?_
  refine g_two (w1 := wX a c X1) (st1 := [.int r]) (gr_V (n := 2) (rest := []) (pc := 313) hx hb hml hown hts9 (cX8_gate_met l D c tb sa sv a (sc (x3 + nI 1).toNatClampNeg) (sc (x3 + nI 2).toNatClampNeg) X r X1 q8) gL_law_X8_gate rfl rfl rfl (by decide +kernel) rfl ⟨Nat.le_of_ble_eq_true rfl, Nat.le_of_ble_eq_true rfl⟩ ⟨Nat.le_of_ble_eq_true rfl, Nat.le_of_ble_eq_true rfl⟩ 0 8 rfl rfl rfl xE_ok hW.1 hW.2.2.1 hK (xE_ok.tr hE hS (g_free hW.2.2.1 hS hA)) hl.1 (Nat.le_of_ble_eq_true rfl) dL_law_313 rfl) hW hS hA rfl (fun H locs hW hS => ?_)
  refine lv_aload_n hx hb dL_law_316 rfl (lv_at hl 2 rfl) ?_
  refine law_ld (k := nI 1) C hS hl dL_law_317 dL_law_318 dL_law_319 dL_law_320 dL_law_321 (by decide) (law_in e3 hi hL rfl (by decide)) ?_
  refine law_ld (k := nI 2) C hS hl dL_law_322 dL_law_323 dL_law_324 dL_law_325 dL_law_326 (by decide) (law_in e3 hi hL rfl (by decide)) ?_
  refine g_two (w1 := wX9 a9 c σ) (st1 := [.int r, .int r]) (gr_V (n := 2) (rest := [.int r]) (pc := 327) hx hb hml hown hts9 (cX9_gate_met l D c a9 (sc (x3 + nI 1).toNatClampNeg) (sc (x3 + nI 2).toNatClampNeg) σ r q9) gL_law_X9_gate rfl rfl rfl (by decide +kernel) rfl ⟨Nat.le_of_ble_eq_true rfl, Nat.le_of_ble_eq_true rfl⟩ ⟨Nat.le_of_ble_eq_true rfl, Nat.le_of_ble_eq_true rfl⟩ 0 9 rfl rfl rfl gT_ok hW.2.1 hW.2.2.2.1 hK (fun _ _ _ => trivial) hl.1 (Nat.le_of_ble_eq_true rfl) dL_law_327 rfl) hW.swap hS hA rfl (fun H locs hW hS => ?_)
  have hW := hW.swap
  exact lv_icmp_eq (tgt := 1111) hx hb dL_law_330 (by decide) (fun _ => KK X1 σ H locs hR1 hW hS) (fun q => absurd rfl q)
set_option maxRecDepth 100000 in
set_option maxHeartbeats 4000000 in
/-- taken -/
theorem law_case5 (C : LC p s m meth cd b L sc D c tb sa sv) (hR : Rel X σ) (hW : L2 D (fun q : Nat => s.heap.size ≤ q) (wX a c X) (wX9 a9 c σ) H) (hS : va_S (fun q : Nat => s.heap.size ≤ q) s.heap H locs) (e3 : x3 = nI i) (hi : i + 7 ≤ L) (hl : lv_has ls 4 (lwl a a9 b x3)) (KK : LKK p l e s m below meth cd b D c a a9 ls) : LW p l e s m below meth cd b H locs 335 ls [] := by
  obtain ⟨⟨hx, hb, hr, hml, hown, hts, hX, hbl, hlocks, hgv⟩, hL, hK, hE⟩ := id C
  have hA : ∀ q : Nat, s.heap.size ≤ q → (fun q : Nat => s.heap.size ≤ q) q := fun _ h => h
  have hown : s.vm.findClass RL = some m.cls := hown
  have hts9 : ∀ w ∈ wsL_law, w.before #[Value.ref b] s = true := fun w h => hts w (wsL_law_in w h)
  obtain ⟨r, q8, q9⟩ := sim_taken hR (sc (x3 + nI 1).toNatClampNeg) (sc (x3 + nI 2).toNatClampNeg)
  refine lv_aload_n hx hb dL_law_335 rfl (lv_at hl 1 rfl) ?_
  refine law_ld (k := nI 1) C hS hl dL_law_336 dL_law_337 dL_law_338 dL_law_339 dL_law_340 (by decide) (law_in e3 hi hL rfl (by decide)) ?_
  refine law_ld (k := nI 2) C hS hl dL_law_341 dL_law_342 dL_law_343 dL_law_344 dL_law_345 (by decide) (law_in e3 hi hL rfl (by decide)) ?_
  refine g_two (w1 := wX a c X) (st1 := [.int r]) (gr_V (n := 2) (rest := []) (pc := 346) hx hb hml hown hts9 (cX8_taken_met l D c tb sa sv a (sc (x3 + nI 1).toNatClampNeg) (sc (x3 + nI 2).toNatClampNeg) X r q8) gL_law_X8_taken rfl rfl rfl (by decide +kernel) rfl ⟨Nat.le_of_ble_eq_true rfl, Nat.le_of_ble_eq_true rfl⟩ ⟨Nat.le_of_ble_eq_true rfl, Nat.le_of_ble_eq_true rfl⟩ 0 8 rfl rfl rfl xE_ok hW.1 hW.2.2.1 hK (xE_ok.tr hE hS (g_free hW.2.2.1 hS hA)) hl.1 (Nat.le_of_ble_eq_true rfl) dL_law_346 rfl) hW hS hA rfl (fun H locs hW hS => ?_)
  refine lv_aload_n hx hb dL_law_349 rfl (lv_at hl 2 rfl) ?_
  refine law_ld (k := nI 1) C hS hl dL_law_350 dL_law_351 dL_law_352 dL_law_353 dL_law_354 (by decide) (law_in e3 hi hL rfl (by decide)) ?_
  refine law_ld (k := nI 2) C hS hl dL_law_355 dL_law_356 dL_law_357 dL_law_358 dL_law_359 (by decide) (law_in e3 hi hL rfl (by decide)) ?_
  refine g_two (w1 := wX9 a9 c σ) (st1 := [.int r, .int r]) (gr_V (n := 2) (rest := [.int r]) (pc := 360) hx hb hml hown hts9 (cX9_taken_met l D c a9 (sc (x3 + nI 1).toNatClampNeg) (sc (x3 + nI 2).toNatClampNeg) σ r q9) gL_law_X9_taken rfl rfl rfl (by decide +kernel) rfl ⟨Nat.le_of_ble_eq_true rfl, Nat.le_of_ble_eq_true rfl⟩ ⟨Nat.le_of_ble_eq_true rfl, Nat.le_of_ble_eq_true rfl⟩ 0 9 rfl rfl rfl gT_ok hW.2.1 hW.2.2.2.1 hK (fun _ _ _ => trivial) hl.1 (Nat.le_of_ble_eq_true rfl) dL_law_360 rfl) hW.swap hS hA rfl (fun H locs hW hS => ?_)
  have hW := hW.swap
  exact lv_icmp_eq (tgt := 1111) hx hb dL_law_363 (by decide) (fun _ => KK X σ H locs hR hW hS) (fun q => absurd rfl q)
set_option maxRecDepth 100000 in
set_option maxHeartbeats 4000000 in
/-- tells -/
theorem law_case6 (C : LC p s m meth cd b L sc D c tb sa sv) (hR : Rel X σ) (hW : L2 D (fun q : Nat => s.heap.size ≤ q) (wX a c X) (wX9 a9 c σ) H) (hS : va_S (fun q : Nat => s.heap.size ≤ q) s.heap H locs) (e3 : x3 = nI i) (hi : i + 7 ≤ L) (hl : lv_has ls 4 (lwl a a9 b x3)) (KK : LKK p l e s m below meth cd b D c a a9 ls) : LW p l e s m below meth cd b H locs 368 ls [] := by
  obtain ⟨⟨hx, hb, hr, hml, hown, hts, hX, hbl, hlocks, hgv⟩, hL, hK, hE⟩ := id C
  have hA : ∀ q : Nat, s.heap.size ≤ q → (fun q : Nat => s.heap.size ≤ q) q := fun _ h => h
  have hown : s.vm.findClass RL = some m.cls := hown
  have hts9 : ∀ w ∈ wsL_law, w.before #[Value.ref b] s = true := fun w h => hts w (wsL_law_in w h)
  obtain ⟨r, X1, σ1, q8, q9, hR1⟩ := sim_tells hR (sc (x3 + nI 1).toNatClampNeg) (sc (x3 + nI 2).toNatClampNeg)
  refine lv_aload_n hx hb dL_law_368 rfl (lv_at hl 1 rfl) ?_
  refine law_ld (k := nI 1) C hS hl dL_law_369 dL_law_370 dL_law_371 dL_law_372 dL_law_373 (by decide) (law_in e3 hi hL rfl (by decide)) ?_
  refine law_ld (k := nI 2) C hS hl dL_law_374 dL_law_375 dL_law_376 dL_law_377 dL_law_378 (by decide) (law_in e3 hi hL rfl (by decide)) ?_
  refine g_two (w1 := wX a c X1) (st1 := [.int r]) (gr_V (n := 2) (rest := []) (pc := 379) hx hb hml hown hts9 (cX8_tells_met l D c tb sa sv a (sc (x3 + nI 1).toNatClampNeg) (sc (x3 + nI 2).toNatClampNeg) X r X1 q8) gL_law_X8_tells rfl rfl rfl (by decide +kernel) rfl ⟨Nat.le_of_ble_eq_true rfl, Nat.le_of_ble_eq_true rfl⟩ ⟨Nat.le_of_ble_eq_true rfl, Nat.le_of_ble_eq_true rfl⟩ 0 8 rfl rfl rfl xE_ok hW.1 hW.2.2.1 hK (xE_ok.tr hE hS (g_free hW.2.2.1 hS hA)) hl.1 (Nat.le_of_ble_eq_true rfl) dL_law_379 rfl) hW hS hA rfl (fun H locs hW hS => ?_)
  refine lv_aload_n hx hb dL_law_382 rfl (lv_at hl 2 rfl) ?_
  refine law_ld (k := nI 1) C hS hl dL_law_383 dL_law_384 dL_law_385 dL_law_386 dL_law_387 (by decide) (law_in e3 hi hL rfl (by decide)) ?_
  refine law_ld (k := nI 2) C hS hl dL_law_388 dL_law_389 dL_law_390 dL_law_391 dL_law_392 (by decide) (law_in e3 hi hL rfl (by decide)) ?_
  refine g_two (w1 := wX9 a9 c σ1) (st1 := [.int r, .int r]) (gr_V (n := 2) (rest := [.int r]) (pc := 393) hx hb hml hown hts9 (cX9_tells_met l D c a9 (sc (x3 + nI 1).toNatClampNeg) (sc (x3 + nI 2).toNatClampNeg) σ r σ1 q9) gL_law_X9_tells rfl rfl rfl (by decide +kernel) rfl ⟨Nat.le_of_ble_eq_true rfl, Nat.le_of_ble_eq_true rfl⟩ ⟨Nat.le_of_ble_eq_true rfl, Nat.le_of_ble_eq_true rfl⟩ 0 9 rfl rfl rfl gT_ok hW.2.1 hW.2.2.2.1 hK (fun _ _ _ => trivial) hl.1 (Nat.le_of_ble_eq_true rfl) dL_law_393 rfl) hW.swap hS hA rfl (fun H locs hW hS => ?_)
  have hW := hW.swap
  exact lv_icmp_eq (tgt := 1111) hx hb dL_law_396 (by decide) (fun _ => KK X1 σ1 H locs hR1 hW hS) (fun q => absurd rfl q)
set_option maxRecDepth 100000 in
set_option maxHeartbeats 4000000 in
/-- table -/
theorem law_case7 (C : LC p s m meth cd b L sc D c tb sa sv) (hR : Rel X σ) (hW : L2 D (fun q : Nat => s.heap.size ≤ q) (wX a c X) (wX9 a9 c σ) H) (hS : va_S (fun q : Nat => s.heap.size ≤ q) s.heap H locs) (e3 : x3 = nI i) (hi : i + 7 ≤ L) (hl : lv_has ls 4 (lwl a a9 b x3)) (KK : LKK p l e s m below meth cd b D c a a9 ls) : LW p l e s m below meth cd b H locs 401 ls [] := by
  obtain ⟨⟨hx, hb, hr, hml, hown, hts, hX, hbl, hlocks, hgv⟩, hL, hK, hE⟩ := id C
  have hA : ∀ q : Nat, s.heap.size ≤ q → (fun q : Nat => s.heap.size ≤ q) q := fun _ h => h
  have hown : s.vm.findClass RL = some m.cls := hown
  have hts9 : ∀ w ∈ wsL_law, w.before #[Value.ref b] s = true := fun w h => hts w (wsL_law_in w h)
  obtain ⟨r, X1, σ1, q8, q9, hR1⟩ := sim_table hR 
  refine lv_aload_n hx hb dL_law_401 rfl (lv_at hl 1 rfl) ?_
  refine g_two (w1 := wX a c X1) (st1 := [.int r]) (gr_V (n := 0) (rest := []) (pc := 402) hx hb hml hown hts9 (cX8_table_met l D c tb sa sv a  X r X1 q8) gL_law_X8_table rfl rfl rfl (by decide +kernel) rfl ⟨Nat.le_of_ble_eq_true rfl, Nat.le_of_ble_eq_true rfl⟩ ⟨Nat.le_of_ble_eq_true rfl, Nat.le_of_ble_eq_true rfl⟩ 0 8 rfl rfl rfl xE_ok hW.1 hW.2.2.1 hK (xE_ok.tr hE hS (g_free hW.2.2.1 hS hA)) hl.1 (Nat.le_of_ble_eq_true rfl) dL_law_402 rfl) hW hS hA rfl (fun H locs hW hS => ?_)
  refine lv_aload_n hx hb dL_law_405 rfl (lv_at hl 2 rfl) ?_
  refine g_two (w1 := wX9 a9 c σ1) (st1 := [.int r, .int r]) (gr_V (n := 0) (rest := [.int r]) (pc := 406) hx hb hml hown hts9 (cX9_table_met l D c a9  σ r σ1 q9) gL_law_X9_table rfl rfl rfl (by decide +kernel) rfl ⟨Nat.le_of_ble_eq_true rfl, Nat.le_of_ble_eq_true rfl⟩ ⟨Nat.le_of_ble_eq_true rfl, Nat.le_of_ble_eq_true rfl⟩ 0 9 rfl rfl rfl gT_ok hW.2.1 hW.2.2.2.1 hK (fun _ _ _ => trivial) hl.1 (Nat.le_of_ble_eq_true rfl) dL_law_406 rfl) hW.swap hS hA rfl (fun H locs hW hS => ?_)
  have hW := hW.swap
  exact lv_icmp_eq (tgt := 1111) hx hb dL_law_409 (by decide) (fun _ => KK X1 σ1 H locs hR1 hW hS) (fun q => absurd rfl q)
set_option maxRecDepth 100000 in
set_option maxHeartbeats 4000000 in
/-- wave -/
theorem law_case8 (C : LC p s m meth cd b L sc D c tb sa sv) (hR : Rel X σ) (hW : L2 D (fun q : Nat => s.heap.size ≤ q) (wX a c X) (wX9 a9 c σ) H) (hS : va_S (fun q : Nat => s.heap.size ≤ q) s.heap H locs) (e3 : x3 = nI i) (hi : i + 7 ≤ L) (hl : lv_has ls 4 (lwl a a9 b x3)) (KK : LKK p l e s m below meth cd b D c a a9 ls) : LW p l e s m below meth cd b H locs 414 ls [] := by
  obtain ⟨⟨hx, hb, hr, hml, hown, hts, hX, hbl, hlocks, hgv⟩, hL, hK, hE⟩ := id C
  have hA : ∀ q : Nat, s.heap.size ≤ q → (fun q : Nat => s.heap.size ≤ q) q := fun _ h => h
  have hown : s.vm.findClass RL = some m.cls := hown
  have hts9 : ∀ w ∈ wsL_law, w.before #[Value.ref b] s = true := fun w h => hts w (wsL_law_in w h)
  obtain ⟨r, X1, σ1, q8, q9, hR1⟩ := sim_wave hR (sc (x3 + nI 1).toNatClampNeg) (sc (x3 + nI 2).toNatClampNeg) (sc (x3 + nI 3).toNatClampNeg)
  refine lv_aload_n hx hb dL_law_414 rfl (lv_at hl 1 rfl) ?_
  refine law_ld (k := nI 1) C hS hl dL_law_415 dL_law_416 dL_law_417 dL_law_418 dL_law_419 (by decide) (law_in e3 hi hL rfl (by decide)) ?_
  refine law_ld (k := nI 2) C hS hl dL_law_420 dL_law_421 dL_law_422 dL_law_423 dL_law_424 (by decide) (law_in e3 hi hL rfl (by decide)) ?_
  refine law_ld (k := nI 3) C hS hl dL_law_425 dL_law_426 dL_law_427 dL_law_428 dL_law_429 (by decide) (law_in e3 hi hL rfl (by decide)) ?_
  refine g_two (w1 := wX a c X1) (st1 := [.int r]) (gr_V (n := 3) (rest := []) (pc := 430) hx hb hml hown hts9 (cX8_wave_met l D c tb sa sv a (sc (x3 + nI 1).toNatClampNeg) (sc (x3 + nI 2).toNatClampNeg) (sc (x3 + nI 3).toNatClampNeg) X r X1 q8) gL_law_X8_wave rfl rfl rfl (by decide +kernel) rfl ⟨Nat.le_of_ble_eq_true rfl, Nat.le_of_ble_eq_true rfl⟩ ⟨Nat.le_of_ble_eq_true rfl, Nat.le_of_ble_eq_true rfl⟩ 0 8 rfl rfl rfl xE_ok hW.1 hW.2.2.1 hK (xE_ok.tr hE hS (g_free hW.2.2.1 hS hA)) hl.1 (Nat.le_of_ble_eq_true rfl) dL_law_430 rfl) hW hS hA rfl (fun H locs hW hS => ?_)
  refine lv_aload_n hx hb dL_law_433 rfl (lv_at hl 2 rfl) ?_
  refine law_ld (k := nI 1) C hS hl dL_law_434 dL_law_435 dL_law_436 dL_law_437 dL_law_438 (by decide) (law_in e3 hi hL rfl (by decide)) ?_
  refine law_ld (k := nI 2) C hS hl dL_law_439 dL_law_440 dL_law_441 dL_law_442 dL_law_443 (by decide) (law_in e3 hi hL rfl (by decide)) ?_
  refine law_ld (k := nI 3) C hS hl dL_law_444 dL_law_445 dL_law_446 dL_law_447 dL_law_448 (by decide) (law_in e3 hi hL rfl (by decide)) ?_
  refine g_two (w1 := wX9 a9 c σ1) (st1 := [.int r, .int r]) (gr_V (n := 3) (rest := [.int r]) (pc := 449) hx hb hml hown hts9 (cX9_wave_met l D c a9 (sc (x3 + nI 1).toNatClampNeg) (sc (x3 + nI 2).toNatClampNeg) (sc (x3 + nI 3).toNatClampNeg) σ r σ1 q9) gL_law_X9_wave rfl rfl rfl (by decide +kernel) rfl ⟨Nat.le_of_ble_eq_true rfl, Nat.le_of_ble_eq_true rfl⟩ ⟨Nat.le_of_ble_eq_true rfl, Nat.le_of_ble_eq_true rfl⟩ 0 9 rfl rfl rfl gT_ok hW.2.1 hW.2.2.2.1 hK (fun _ _ _ => trivial) hl.1 (Nat.le_of_ble_eq_true rfl) dL_law_449 rfl) hW.swap hS hA rfl (fun H locs hW hS => ?_)
  have hW := hW.swap
  exact lv_icmp_eq (tgt := 1111) hx hb dL_law_452 (by decide) (fun _ => KK X1 σ1 H locs hR1 hW hS) (fun q => absurd rfl q)
set_option maxRecDepth 100000 in
set_option maxHeartbeats 4000000 in
/-- change -/
theorem law_case9 (C : LC p s m meth cd b L sc D c tb sa sv) (hR : Rel X σ) (hW : L2 D (fun q : Nat => s.heap.size ≤ q) (wX a c X) (wX9 a9 c σ) H) (hS : va_S (fun q : Nat => s.heap.size ≤ q) s.heap H locs) (e3 : x3 = nI i) (hi : i + 7 ≤ L) (hl : lv_has ls 4 (lwl a a9 b x3)) (KK : LKK p l e s m below meth cd b D c a a9 ls) : LW p l e s m below meth cd b H locs 457 ls [] := by
  obtain ⟨⟨hx, hb, hr, hml, hown, hts, hX, hbl, hlocks, hgv⟩, hL, hK, hE⟩ := id C
  have hA : ∀ q : Nat, s.heap.size ≤ q → (fun q : Nat => s.heap.size ≤ q) q := fun _ h => h
  have hown : s.vm.findClass RL = some m.cls := hown
  have hts9 : ∀ w ∈ wsL_law, w.before #[Value.ref b] s = true := fun w h => hts w (wsL_law_in w h)
  obtain ⟨r, X1, σ1, q8, q9, hR1⟩ := sim_change hR (sc (x3 + nI 1).toNatClampNeg) (sc (x3 + nI 2).toNatClampNeg) (sc (x3 + nI 3).toNatClampNeg)
  refine lv_aload_n hx hb dL_law_457 rfl (lv_at hl 1 rfl) ?_
  refine law_ld (k := nI 1) C hS hl dL_law_458 dL_law_459 dL_law_460 dL_law_461 dL_law_462 (by decide) (law_in e3 hi hL rfl (by decide)) ?_
  refine law_ld (k := nI 2) C hS hl dL_law_463 dL_law_464 dL_law_465 dL_law_466 dL_law_467 (by decide) (law_in e3 hi hL rfl (by decide)) ?_
  refine law_ld (k := nI 3) C hS hl dL_law_468 dL_law_469 dL_law_470 dL_law_471 dL_law_472 (by decide) (law_in e3 hi hL rfl (by decide)) ?_
  refine g_two (w1 := wX a c X1) (st1 := [.int r]) (gr_V (n := 3) (rest := []) (pc := 473) hx hb hml hown hts9 (cX8_change_met l D c tb sa sv a (sc (x3 + nI 1).toNatClampNeg) (sc (x3 + nI 2).toNatClampNeg) (sc (x3 + nI 3).toNatClampNeg) X r X1 q8) gL_law_X8_change rfl rfl rfl (by decide +kernel) rfl ⟨Nat.le_of_ble_eq_true rfl, Nat.le_of_ble_eq_true rfl⟩ ⟨Nat.le_of_ble_eq_true rfl, Nat.le_of_ble_eq_true rfl⟩ 0 8 rfl rfl rfl xE_ok hW.1 hW.2.2.1 hK (xE_ok.tr hE hS (g_free hW.2.2.1 hS hA)) hl.1 (Nat.le_of_ble_eq_true rfl) dL_law_473 rfl) hW hS hA rfl (fun H locs hW hS => ?_)
  refine lv_aload_n hx hb dL_law_476 rfl (lv_at hl 2 rfl) ?_
  refine law_ld (k := nI 1) C hS hl dL_law_477 dL_law_478 dL_law_479 dL_law_480 dL_law_481 (by decide) (law_in e3 hi hL rfl (by decide)) ?_
  refine law_ld (k := nI 2) C hS hl dL_law_482 dL_law_483 dL_law_484 dL_law_485 dL_law_486 (by decide) (law_in e3 hi hL rfl (by decide)) ?_
  refine law_ld (k := nI 3) C hS hl dL_law_487 dL_law_488 dL_law_489 dL_law_490 dL_law_491 (by decide) (law_in e3 hi hL rfl (by decide)) ?_
  refine g_two (w1 := wX9 a9 c σ1) (st1 := [.int r, .int r]) (gr_V (n := 3) (rest := [.int r]) (pc := 492) hx hb hml hown hts9 (cX9_change_met l D c a9 (sc (x3 + nI 1).toNatClampNeg) (sc (x3 + nI 2).toNatClampNeg) (sc (x3 + nI 3).toNatClampNeg) σ r σ1 q9) gL_law_X9_change rfl rfl rfl (by decide +kernel) rfl ⟨Nat.le_of_ble_eq_true rfl, Nat.le_of_ble_eq_true rfl⟩ ⟨Nat.le_of_ble_eq_true rfl, Nat.le_of_ble_eq_true rfl⟩ 0 9 rfl rfl rfl gT_ok hW.2.1 hW.2.2.2.1 hK (fun _ _ _ => trivial) hl.1 (Nat.le_of_ble_eq_true rfl) dL_law_492 rfl) hW.swap hS hA rfl (fun H locs hW hS => ?_)
  have hW := hW.swap
  exact lv_icmp_eq (tgt := 1111) hx hb dL_law_495 (by decide) (fun _ => KK X1 σ1 H locs hR1 hW hS) (fun q => absurd rfl q)
set_option maxRecDepth 100000 in
set_option maxHeartbeats 4000000 in
/-- worst -/
theorem law_case10 (C : LC p s m meth cd b L sc D c tb sa sv) (hR : Rel X σ) (hW : L2 D (fun q : Nat => s.heap.size ≤ q) (wX a c X) (wX9 a9 c σ) H) (hS : va_S (fun q : Nat => s.heap.size ≤ q) s.heap H locs) (e3 : x3 = nI i) (hi : i + 7 ≤ L) (hl : lv_has ls 4 (lwl a a9 b x3)) (KK : LKK p l e s m below meth cd b D c a a9 ls) : LW p l e s m below meth cd b H locs 500 ls [] := by
  obtain ⟨⟨hx, hb, hr, hml, hown, hts, hX, hbl, hlocks, hgv⟩, hL, hK, hE⟩ := id C
  have hA : ∀ q : Nat, s.heap.size ≤ q → (fun q : Nat => s.heap.size ≤ q) q := fun _ h => h
  have hown : s.vm.findClass RL = some m.cls := hown
  have hts9 : ∀ w ∈ wsL_law, w.before #[Value.ref b] s = true := fun w h => hts w (wsL_law_in w h)
  obtain ⟨r, X1, σ1, q8, q9, hR1⟩ := sim_worst hR (sc (x3 + nI 1).toNatClampNeg)
  refine lv_aload_n hx hb dL_law_500 rfl (lv_at hl 1 rfl) ?_
  refine law_ld (k := nI 1) C hS hl dL_law_501 dL_law_502 dL_law_503 dL_law_504 dL_law_505 (by decide) (law_in e3 hi hL rfl (by decide)) ?_
  refine g_two (w1 := wX a c X1) (st1 := [.int r]) (gr_V (n := 1) (rest := []) (pc := 506) hx hb hml hown hts9 (cX8_worst_met l D c tb sa sv a (sc (x3 + nI 1).toNatClampNeg) X r X1 q8) gL_law_X8_worst rfl rfl rfl (by decide +kernel) rfl ⟨Nat.le_of_ble_eq_true rfl, Nat.le_of_ble_eq_true rfl⟩ ⟨Nat.le_of_ble_eq_true rfl, Nat.le_of_ble_eq_true rfl⟩ 0 8 rfl rfl rfl xE_ok hW.1 hW.2.2.1 hK (xE_ok.tr hE hS (g_free hW.2.2.1 hS hA)) hl.1 (Nat.le_of_ble_eq_true rfl) dL_law_506 rfl) hW hS hA rfl (fun H locs hW hS => ?_)
  refine lv_aload_n hx hb dL_law_509 rfl (lv_at hl 2 rfl) ?_
  refine law_ld (k := nI 1) C hS hl dL_law_510 dL_law_511 dL_law_512 dL_law_513 dL_law_514 (by decide) (law_in e3 hi hL rfl (by decide)) ?_
  refine g_two (w1 := wX9 a9 c σ1) (st1 := [.int r, .int r]) (gr_V (n := 1) (rest := [.int r]) (pc := 515) hx hb hml hown hts9 (cX9_worst_met l D c a9 (sc (x3 + nI 1).toNatClampNeg) σ r σ1 q9) gL_law_X9_worst rfl rfl rfl (by decide +kernel) rfl ⟨Nat.le_of_ble_eq_true rfl, Nat.le_of_ble_eq_true rfl⟩ ⟨Nat.le_of_ble_eq_true rfl, Nat.le_of_ble_eq_true rfl⟩ 0 9 rfl rfl rfl gT_ok hW.2.1 hW.2.2.2.1 hK (fun _ _ _ => trivial) hl.1 (Nat.le_of_ble_eq_true rfl) dL_law_515 rfl) hW.swap hS hA rfl (fun H locs hW hS => ?_)
  have hW := hW.swap
  exact lv_icmp_eq (tgt := 1111) hx hb dL_law_518 (by decide) (fun _ => KK X1 σ1 H locs hR1 hW hS) (fun q => absurd rfl q)
set_option maxRecDepth 100000 in
set_option maxHeartbeats 4000000 in
/-- glitches -/
theorem law_case11 (C : LC p s m meth cd b L sc D c tb sa sv) (hR : Rel X σ) (hW : L2 D (fun q : Nat => s.heap.size ≤ q) (wX a c X) (wX9 a9 c σ) H) (hS : va_S (fun q : Nat => s.heap.size ≤ q) s.heap H locs) (e3 : x3 = nI i) (hi : i + 7 ≤ L) (hl : lv_has ls 4 (lwl a a9 b x3)) (KK : LKK p l e s m below meth cd b D c a a9 ls) : LW p l e s m below meth cd b H locs 523 ls [] := by
  obtain ⟨⟨hx, hb, hr, hml, hown, hts, hX, hbl, hlocks, hgv⟩, hL, hK, hE⟩ := id C
  have hA : ∀ q : Nat, s.heap.size ≤ q → (fun q : Nat => s.heap.size ≤ q) q := fun _ h => h
  have hown : s.vm.findClass RL = some m.cls := hown
  have hts9 : ∀ w ∈ wsL_law, w.before #[Value.ref b] s = true := fun w h => hts w (wsL_law_in w h)
  obtain ⟨r, X1, σ1, q8, q9, hR1⟩ := sim_glitches hR (sc (x3 + nI 1).toNatClampNeg)
  refine lv_aload_n hx hb dL_law_523 rfl (lv_at hl 1 rfl) ?_
  refine law_ld (k := nI 1) C hS hl dL_law_524 dL_law_525 dL_law_526 dL_law_527 dL_law_528 (by decide) (law_in e3 hi hL rfl (by decide)) ?_
  refine g_two (w1 := wX a c X1) (st1 := [.int r]) (gr_V (n := 1) (rest := []) (pc := 529) hx hb hml hown hts9 (cX8_glitches_met l D c tb sa sv a (sc (x3 + nI 1).toNatClampNeg) X r X1 q8) gL_law_X8_glitches rfl rfl rfl (by decide +kernel) rfl ⟨Nat.le_of_ble_eq_true rfl, Nat.le_of_ble_eq_true rfl⟩ ⟨Nat.le_of_ble_eq_true rfl, Nat.le_of_ble_eq_true rfl⟩ 0 8 rfl rfl rfl xE_ok hW.1 hW.2.2.1 hK (xE_ok.tr hE hS (g_free hW.2.2.1 hS hA)) hl.1 (Nat.le_of_ble_eq_true rfl) dL_law_529 rfl) hW hS hA rfl (fun H locs hW hS => ?_)
  refine lv_aload_n hx hb dL_law_532 rfl (lv_at hl 2 rfl) ?_
  refine law_ld (k := nI 1) C hS hl dL_law_533 dL_law_534 dL_law_535 dL_law_536 dL_law_537 (by decide) (law_in e3 hi hL rfl (by decide)) ?_
  refine g_two (w1 := wX9 a9 c σ1) (st1 := [.int r, .int r]) (gr_V (n := 1) (rest := [.int r]) (pc := 538) hx hb hml hown hts9 (cX9_glitches_met l D c a9 (sc (x3 + nI 1).toNatClampNeg) σ r σ1 q9) gL_law_X9_glitches rfl rfl rfl (by decide +kernel) rfl ⟨Nat.le_of_ble_eq_true rfl, Nat.le_of_ble_eq_true rfl⟩ ⟨Nat.le_of_ble_eq_true rfl, Nat.le_of_ble_eq_true rfl⟩ 0 9 rfl rfl rfl gT_ok hW.2.1 hW.2.2.2.1 hK (fun _ _ _ => trivial) hl.1 (Nat.le_of_ble_eq_true rfl) dL_law_538 rfl) hW.swap hS hA rfl (fun H locs hW hS => ?_)
  have hW := hW.swap
  exact lv_icmp_eq (tgt := 1111) hx hb dL_law_541 (by decide) (fun _ => KK X1 σ1 H locs hR1 hW hS) (fun q => absurd rfl q)
set_option maxRecDepth 100000 in
set_option maxHeartbeats 4000000 in
/-- path -/
theorem law_case12 (C : LC p s m meth cd b L sc D c tb sa sv) (hR : Rel X σ) (hW : L2 D (fun q : Nat => s.heap.size ≤ q) (wX a c X) (wX9 a9 c σ) H) (hS : va_S (fun q : Nat => s.heap.size ≤ q) s.heap H locs) (e3 : x3 = nI i) (hi : i + 7 ≤ L) (hl : lv_has ls 4 (lwl a a9 b x3)) (KK : LKK p l e s m below meth cd b D c a a9 ls) : LW p l e s m below meth cd b H locs 546 ls [] := by
  obtain ⟨⟨hx, hb, hr, hml, hown, hts, hX, hbl, hlocks, hgv⟩, hL, hK, hE⟩ := id C
  have hA : ∀ q : Nat, s.heap.size ≤ q → (fun q : Nat => s.heap.size ≤ q) q := fun _ h => h
  have hown : s.vm.findClass RL = some m.cls := hown
  have hts9 : ∀ w ∈ wsL_law, w.before #[Value.ref b] s = true := fun w h => hts w (wsL_law_in w h)
  obtain ⟨r, X1, q8, q9, hR1⟩ := sim_path hR (sc (x3 + nI 1).toNatClampNeg)
  refine lv_aload_n hx hb dL_law_546 rfl (lv_at hl 1 rfl) ?_
  refine law_ld (k := nI 1) C hS hl dL_law_547 dL_law_548 dL_law_549 dL_law_550 dL_law_551 (by decide) (law_in e3 hi hL rfl (by decide)) ?_
  refine g_two (w1 := wX a c X1) (st1 := [.int r]) (gr_V (n := 1) (rest := []) (pc := 552) hx hb hml hown hts9 (cX8_path_met l D c tb sa sv a (sc (x3 + nI 1).toNatClampNeg) X r X1 q8) gL_law_X8_path rfl rfl rfl (by decide +kernel) rfl ⟨Nat.le_of_ble_eq_true rfl, Nat.le_of_ble_eq_true rfl⟩ ⟨Nat.le_of_ble_eq_true rfl, Nat.le_of_ble_eq_true rfl⟩ 0 8 rfl rfl rfl xE_ok hW.1 hW.2.2.1 hK (xE_ok.tr hE hS (g_free hW.2.2.1 hS hA)) hl.1 (Nat.le_of_ble_eq_true rfl) dL_law_552 rfl) hW hS hA rfl (fun H locs hW hS => ?_)
  refine lv_aload_n hx hb dL_law_555 rfl (lv_at hl 2 rfl) ?_
  refine law_ld (k := nI 1) C hS hl dL_law_556 dL_law_557 dL_law_558 dL_law_559 dL_law_560 (by decide) (law_in e3 hi hL rfl (by decide)) ?_
  refine g_two (w1 := wX9 a9 c σ) (st1 := [.int r, .int r]) (gr_V (n := 1) (rest := [.int r]) (pc := 561) hx hb hml hown hts9 (cX9_path_met l D c a9 (sc (x3 + nI 1).toNatClampNeg) σ r q9) gL_law_X9_path rfl rfl rfl (by decide +kernel) rfl ⟨Nat.le_of_ble_eq_true rfl, Nat.le_of_ble_eq_true rfl⟩ ⟨Nat.le_of_ble_eq_true rfl, Nat.le_of_ble_eq_true rfl⟩ 0 9 rfl rfl rfl gT_ok hW.2.1 hW.2.2.2.1 hK (fun _ _ _ => trivial) hl.1 (Nat.le_of_ble_eq_true rfl) dL_law_561 rfl) hW.swap hS hA rfl (fun H locs hW hS => ?_)
  have hW := hW.swap
  exact lv_icmp_eq (tgt := 1111) hx hb dL_law_564 (by decide) (fun _ => KK X1 σ H locs hR1 hW hS) (fun q => absurd rfl q)
set_option maxRecDepth 100000 in
set_option maxHeartbeats 4000000 in
/-- term -/
theorem law_case13 (C : LC p s m meth cd b L sc D c tb sa sv) (hR : Rel X σ) (hW : L2 D (fun q : Nat => s.heap.size ≤ q) (wX a c X) (wX9 a9 c σ) H) (hS : va_S (fun q : Nat => s.heap.size ≤ q) s.heap H locs) (e3 : x3 = nI i) (hi : i + 7 ≤ L) (hl : lv_has ls 4 (lwl a a9 b x3)) (KK : LKK p l e s m below meth cd b D c a a9 ls) : LW p l e s m below meth cd b H locs 569 ls [] := by
  obtain ⟨⟨hx, hb, hr, hml, hown, hts, hX, hbl, hlocks, hgv⟩, hL, hK, hE⟩ := id C
  have hA : ∀ q : Nat, s.heap.size ≤ q → (fun q : Nat => s.heap.size ≤ q) q := fun _ h => h
  have hown : s.vm.findClass RL = some m.cls := hown
  have hts9 : ∀ w ∈ wsL_law, w.before #[Value.ref b] s = true := fun w h => hts w (wsL_law_in w h)
  obtain ⟨r, X1, σ1, q8, q9, hR1⟩ := sim_term hR (sc (x3 + nI 1).toNatClampNeg) (sc (x3 + nI 2).toNatClampNeg)
  refine lv_aload_n hx hb dL_law_569 rfl (lv_at hl 1 rfl) ?_
  refine law_ld (k := nI 1) C hS hl dL_law_570 dL_law_571 dL_law_572 dL_law_573 dL_law_574 (by decide) (law_in e3 hi hL rfl (by decide)) ?_
  refine law_ld (k := nI 2) C hS hl dL_law_575 dL_law_576 dL_law_577 dL_law_578 dL_law_579 (by decide) (law_in e3 hi hL rfl (by decide)) ?_
  refine g_two (w1 := wX a c X1) (st1 := [.int r]) (gr_V (n := 2) (rest := []) (pc := 580) hx hb hml hown hts9 (cX8_term_met l D c tb sa sv a (sc (x3 + nI 1).toNatClampNeg) (sc (x3 + nI 2).toNatClampNeg) X r X1 q8) gL_law_X8_term rfl rfl rfl (by decide +kernel) rfl ⟨Nat.le_of_ble_eq_true rfl, Nat.le_of_ble_eq_true rfl⟩ ⟨Nat.le_of_ble_eq_true rfl, Nat.le_of_ble_eq_true rfl⟩ 0 8 rfl rfl rfl xE_ok hW.1 hW.2.2.1 hK (xE_ok.tr hE hS (g_free hW.2.2.1 hS hA)) hl.1 (Nat.le_of_ble_eq_true rfl) dL_law_580 rfl) hW hS hA rfl (fun H locs hW hS => ?_)
  refine lv_aload_n hx hb dL_law_583 rfl (lv_at hl 2 rfl) ?_
  refine law_ld (k := nI 1) C hS hl dL_law_584 dL_law_585 dL_law_586 dL_law_587 dL_law_588 (by decide) (law_in e3 hi hL rfl (by decide)) ?_
  refine law_ld (k := nI 2) C hS hl dL_law_589 dL_law_590 dL_law_591 dL_law_592 dL_law_593 (by decide) (law_in e3 hi hL rfl (by decide)) ?_
  refine g_two (w1 := wX9 a9 c σ1) (st1 := [.int r, .int r]) (gr_V (n := 2) (rest := [.int r]) (pc := 594) hx hb hml hown hts9 (cX9_term_met l D c a9 (sc (x3 + nI 1).toNatClampNeg) (sc (x3 + nI 2).toNatClampNeg) σ r σ1 q9) gL_law_X9_term rfl rfl rfl (by decide +kernel) rfl ⟨Nat.le_of_ble_eq_true rfl, Nat.le_of_ble_eq_true rfl⟩ ⟨Nat.le_of_ble_eq_true rfl, Nat.le_of_ble_eq_true rfl⟩ 0 9 rfl rfl rfl gT_ok hW.2.1 hW.2.2.2.1 hK (fun _ _ _ => trivial) hl.1 (Nat.le_of_ble_eq_true rfl) dL_law_594 rfl) hW.swap hS hA rfl (fun H locs hW hS => ?_)
  have hW := hW.swap
  exact lv_icmp_eq (tgt := 1111) hx hb dL_law_597 (by decide) (fun _ => KK X1 σ1 H locs hR1 hW hS) (fun q => absurd rfl q)
set_option maxRecDepth 100000 in
set_option maxHeartbeats 4000000 in
/-- off -/
theorem law_case14 (C : LC p s m meth cd b L sc D c tb sa sv) (hR : Rel X σ) (hW : L2 D (fun q : Nat => s.heap.size ≤ q) (wX a c X) (wX9 a9 c σ) H) (hS : va_S (fun q : Nat => s.heap.size ≤ q) s.heap H locs) (e3 : x3 = nI i) (hi : i + 7 ≤ L) (hl : lv_has ls 4 (lwl a a9 b x3)) (KK : LKK p l e s m below meth cd b D c a a9 ls) : LW p l e s m below meth cd b H locs 602 ls [] := by
  obtain ⟨⟨hx, hb, hr, hml, hown, hts, hX, hbl, hlocks, hgv⟩, hL, hK, hE⟩ := id C
  have hA : ∀ q : Nat, s.heap.size ≤ q → (fun q : Nat => s.heap.size ≤ q) q := fun _ h => h
  have hown : s.vm.findClass RL = some m.cls := hown
  have hts9 : ∀ w ∈ wsL_law, w.before #[Value.ref b] s = true := fun w h => hts w (wsL_law_in w h)
  obtain ⟨r, X1, σ1, q8, q9, hR1⟩ := sim_off hR (sc (x3 + nI 1).toNatClampNeg)
  refine lv_aload_n hx hb dL_law_602 rfl (lv_at hl 1 rfl) ?_
  refine law_ld (k := nI 1) C hS hl dL_law_603 dL_law_604 dL_law_605 dL_law_606 dL_law_607 (by decide) (law_in e3 hi hL rfl (by decide)) ?_
  refine g_two (w1 := wX a c X1) (st1 := [.int r]) (gr_V (n := 1) (rest := []) (pc := 608) hx hb hml hown hts9 (cX8_off_met l D c tb sa sv a (sc (x3 + nI 1).toNatClampNeg) X r X1 q8) gL_law_X8_off rfl rfl rfl (by decide +kernel) rfl ⟨Nat.le_of_ble_eq_true rfl, Nat.le_of_ble_eq_true rfl⟩ ⟨Nat.le_of_ble_eq_true rfl, Nat.le_of_ble_eq_true rfl⟩ 0 8 rfl rfl rfl xE_ok hW.1 hW.2.2.1 hK (xE_ok.tr hE hS (g_free hW.2.2.1 hS hA)) hl.1 (Nat.le_of_ble_eq_true rfl) dL_law_608 rfl) hW hS hA rfl (fun H locs hW hS => ?_)
  refine lv_aload_n hx hb dL_law_611 rfl (lv_at hl 2 rfl) ?_
  refine law_ld (k := nI 1) C hS hl dL_law_612 dL_law_613 dL_law_614 dL_law_615 dL_law_616 (by decide) (law_in e3 hi hL rfl (by decide)) ?_
  refine g_two (w1 := wX9 a9 c σ1) (st1 := [.int r, .int r]) (gr_V (n := 1) (rest := [.int r]) (pc := 617) hx hb hml hown hts9 (cX9_off_met l D c a9 (sc (x3 + nI 1).toNatClampNeg) σ r σ1 q9) gL_law_X9_off rfl rfl rfl (by decide +kernel) rfl ⟨Nat.le_of_ble_eq_true rfl, Nat.le_of_ble_eq_true rfl⟩ ⟨Nat.le_of_ble_eq_true rfl, Nat.le_of_ble_eq_true rfl⟩ 0 9 rfl rfl rfl gT_ok hW.2.1 hW.2.2.2.1 hK (fun _ _ _ => trivial) hl.1 (Nat.le_of_ble_eq_true rfl) dL_law_617 rfl) hW.swap hS hA rfl (fun H locs hW hS => ?_)
  have hW := hW.swap
  exact lv_icmp_eq (tgt := 1111) hx hb dL_law_620 (by decide) (fun _ => KK X1 σ1 H locs hR1 hW hS) (fun q => absurd rfl q)
set_option maxRecDepth 100000 in
set_option maxHeartbeats 4000000 in
/-- termOf -/
theorem law_case15 (C : LC p s m meth cd b L sc D c tb sa sv) (hR : Rel X σ) (hW : L2 D (fun q : Nat => s.heap.size ≤ q) (wX a c X) (wX9 a9 c σ) H) (hS : va_S (fun q : Nat => s.heap.size ≤ q) s.heap H locs) (e3 : x3 = nI i) (hi : i + 7 ≤ L) (hl : lv_has ls 4 (lwl a a9 b x3)) (KK : LKK p l e s m below meth cd b D c a a9 ls) : LW p l e s m below meth cd b H locs 625 ls [] := by
  obtain ⟨⟨hx, hb, hr, hml, hown, hts, hX, hbl, hlocks, hgv⟩, hL, hK, hE⟩ := id C
  have hA : ∀ q : Nat, s.heap.size ≤ q → (fun q : Nat => s.heap.size ≤ q) q := fun _ h => h
  have hown : s.vm.findClass RL = some m.cls := hown
  have hts9 : ∀ w ∈ wsL_law, w.before #[Value.ref b] s = true := fun w h => hts w (wsL_law_in w h)
  obtain ⟨r, q8, q9⟩ := sim_termOf hR (sc (x3 + nI 1).toNatClampNeg) (sc (x3 + nI 2).toNatClampNeg)
  refine lv_aload_n hx hb dL_law_625 rfl (lv_at hl 1 rfl) ?_
  refine law_ld (k := nI 1) C hS hl dL_law_626 dL_law_627 dL_law_628 dL_law_629 dL_law_630 (by decide) (law_in e3 hi hL rfl (by decide)) ?_
  refine law_ld (k := nI 2) C hS hl dL_law_631 dL_law_632 dL_law_633 dL_law_634 dL_law_635 (by decide) (law_in e3 hi hL rfl (by decide)) ?_
  refine g_two (w1 := wX a c X) (st1 := [.int r]) (gr_V (n := 2) (rest := []) (pc := 636) hx hb hml hown hts9 (cX8_termOf_met l D c tb sa sv a (sc (x3 + nI 1).toNatClampNeg) (sc (x3 + nI 2).toNatClampNeg) X r q8) gL_law_X8_termOf rfl rfl rfl (by decide +kernel) rfl ⟨Nat.le_of_ble_eq_true rfl, Nat.le_of_ble_eq_true rfl⟩ ⟨Nat.le_of_ble_eq_true rfl, Nat.le_of_ble_eq_true rfl⟩ 0 8 rfl rfl rfl xE_ok hW.1 hW.2.2.1 hK (xE_ok.tr hE hS (g_free hW.2.2.1 hS hA)) hl.1 (Nat.le_of_ble_eq_true rfl) dL_law_636 rfl) hW hS hA rfl (fun H locs hW hS => ?_)
  refine lv_aload_n hx hb dL_law_639 rfl (lv_at hl 2 rfl) ?_
  refine law_ld (k := nI 1) C hS hl dL_law_640 dL_law_641 dL_law_642 dL_law_643 dL_law_644 (by decide) (law_in e3 hi hL rfl (by decide)) ?_
  refine law_ld (k := nI 2) C hS hl dL_law_645 dL_law_646 dL_law_647 dL_law_648 dL_law_649 (by decide) (law_in e3 hi hL rfl (by decide)) ?_
  refine g_two (w1 := wX9 a9 c σ) (st1 := [.int r, .int r]) (gr_V (n := 2) (rest := [.int r]) (pc := 650) hx hb hml hown hts9 (cX9_termOf_met l D c a9 (sc (x3 + nI 1).toNatClampNeg) (sc (x3 + nI 2).toNatClampNeg) σ r q9) gL_law_X9_termOf rfl rfl rfl (by decide +kernel) rfl ⟨Nat.le_of_ble_eq_true rfl, Nat.le_of_ble_eq_true rfl⟩ ⟨Nat.le_of_ble_eq_true rfl, Nat.le_of_ble_eq_true rfl⟩ 0 9 rfl rfl rfl gT_ok hW.2.1 hW.2.2.2.1 hK (fun _ _ _ => trivial) hl.1 (Nat.le_of_ble_eq_true rfl) dL_law_650 rfl) hW.swap hS hA rfl (fun H locs hW hS => ?_)
  have hW := hW.swap
  exact lv_icmp_eq (tgt := 1111) hx hb dL_law_653 (by decide) (fun _ => KK X σ H locs hR hW hS) (fun q => absurd rfl q)
set_option maxRecDepth 100000 in
set_option maxHeartbeats 4000000 in
/-- covered -/
theorem law_case16 (C : LC p s m meth cd b L sc D c tb sa sv) (hR : Rel X σ) (hW : L2 D (fun q : Nat => s.heap.size ≤ q) (wX a c X) (wX9 a9 c σ) H) (hS : va_S (fun q : Nat => s.heap.size ≤ q) s.heap H locs) (e3 : x3 = nI i) (hi : i + 7 ≤ L) (hl : lv_has ls 4 (lwl a a9 b x3)) (KK : LKK p l e s m below meth cd b D c a a9 ls) : LW p l e s m below meth cd b H locs 658 ls [] := by
  obtain ⟨⟨hx, hb, hr, hml, hown, hts, hX, hbl, hlocks, hgv⟩, hL, hK, hE⟩ := id C
  have hA : ∀ q : Nat, s.heap.size ≤ q → (fun q : Nat => s.heap.size ≤ q) q := fun _ h => h
  have hown : s.vm.findClass RL = some m.cls := hown
  have hts9 : ∀ w ∈ wsL_law, w.before #[Value.ref b] s = true := fun w h => hts w (wsL_law_in w h)
  obtain ⟨r, X1, σ1, q8, q9, hR1⟩ := sim_covered hR (sc (x3 + nI 1).toNatClampNeg)
  refine lv_aload_n hx hb dL_law_658 rfl (lv_at hl 1 rfl) ?_
  refine law_ld (k := nI 1) C hS hl dL_law_659 dL_law_660 dL_law_661 dL_law_662 dL_law_663 (by decide) (law_in e3 hi hL rfl (by decide)) ?_
  refine g_two (w1 := wX a c X1) (st1 := [.int r]) (gr_V (n := 1) (rest := []) (pc := 664) hx hb hml hown hts9 (cX8_covered_met l D c tb sa sv a (sc (x3 + nI 1).toNatClampNeg) X r X1 q8) gL_law_X8_covered rfl rfl rfl (by decide +kernel) rfl ⟨Nat.le_of_ble_eq_true rfl, Nat.le_of_ble_eq_true rfl⟩ ⟨Nat.le_of_ble_eq_true rfl, Nat.le_of_ble_eq_true rfl⟩ 0 8 rfl rfl rfl xE_ok hW.1 hW.2.2.1 hK (xE_ok.tr hE hS (g_free hW.2.2.1 hS hA)) hl.1 (Nat.le_of_ble_eq_true rfl) dL_law_664 rfl) hW hS hA rfl (fun H locs hW hS => ?_)
  refine lv_aload_n hx hb dL_law_667 rfl (lv_at hl 2 rfl) ?_
  refine law_ld (k := nI 1) C hS hl dL_law_668 dL_law_669 dL_law_670 dL_law_671 dL_law_672 (by decide) (law_in e3 hi hL rfl (by decide)) ?_
  refine g_two (w1 := wX9 a9 c σ1) (st1 := [.int r, .int r]) (gr_V (n := 1) (rest := [.int r]) (pc := 673) hx hb hml hown hts9 (cX9_covered_met l D c a9 (sc (x3 + nI 1).toNatClampNeg) σ r σ1 q9) gL_law_X9_covered rfl rfl rfl (by decide +kernel) rfl ⟨Nat.le_of_ble_eq_true rfl, Nat.le_of_ble_eq_true rfl⟩ ⟨Nat.le_of_ble_eq_true rfl, Nat.le_of_ble_eq_true rfl⟩ 0 9 rfl rfl rfl gT_ok hW.2.1 hW.2.2.2.1 hK (fun _ _ _ => trivial) hl.1 (Nat.le_of_ble_eq_true rfl) dL_law_673 rfl) hW.swap hS hA rfl (fun H locs hW hS => ?_)
  have hW := hW.swap
  exact lv_icmp_eq (tgt := 1111) hx hb dL_law_676 (by decide) (fun _ => KK X1 σ1 H locs hR1 hW hS) (fun q => absurd rfl q)
set_option maxRecDepth 100000 in
set_option maxHeartbeats 4000000 in
/-- open -/
theorem law_case17 (C : LC p s m meth cd b L sc D c tb sa sv) (hR : Rel X σ) (hW : L2 D (fun q : Nat => s.heap.size ≤ q) (wX a c X) (wX9 a9 c σ) H) (hS : va_S (fun q : Nat => s.heap.size ≤ q) s.heap H locs) (e3 : x3 = nI i) (hi : i + 7 ≤ L) (hl : lv_has ls 4 (lwl a a9 b x3)) (KK : LKK p l e s m below meth cd b D c a a9 ls) : LW p l e s m below meth cd b H locs 681 ls [] := by
  obtain ⟨⟨hx, hb, hr, hml, hown, hts, hX, hbl, hlocks, hgv⟩, hL, hK, hE⟩ := id C
  have hA : ∀ q : Nat, s.heap.size ≤ q → (fun q : Nat => s.heap.size ≤ q) q := fun _ h => h
  have hown : s.vm.findClass RL = some m.cls := hown
  have hts9 : ∀ w ∈ wsL_law, w.before #[Value.ref b] s = true := fun w h => hts w (wsL_law_in w h)
  obtain ⟨r, σ1, q8, q9, hR1⟩ := sim_open hR (sc (x3 + nI 1).toNatClampNeg)
  refine lv_aload_n hx hb dL_law_681 rfl (lv_at hl 1 rfl) ?_
  refine law_ld (k := nI 1) C hS hl dL_law_682 dL_law_683 dL_law_684 dL_law_685 dL_law_686 (by decide) (law_in e3 hi hL rfl (by decide)) ?_
  refine g_two (w1 := wX a c X) (st1 := [.int r]) (gr_V (n := 1) (rest := []) (pc := 687) hx hb hml hown hts9 (cX8_open_met l D c tb sa sv a (sc (x3 + nI 1).toNatClampNeg) X r q8) gL_law_X8_open rfl rfl rfl (by decide +kernel) rfl ⟨Nat.le_of_ble_eq_true rfl, Nat.le_of_ble_eq_true rfl⟩ ⟨Nat.le_of_ble_eq_true rfl, Nat.le_of_ble_eq_true rfl⟩ 0 8 rfl rfl rfl xE_ok hW.1 hW.2.2.1 hK (xE_ok.tr hE hS (g_free hW.2.2.1 hS hA)) hl.1 (Nat.le_of_ble_eq_true rfl) dL_law_687 rfl) hW hS hA rfl (fun H locs hW hS => ?_)
  refine lv_aload_n hx hb dL_law_690 rfl (lv_at hl 2 rfl) ?_
  refine law_ld (k := nI 1) C hS hl dL_law_691 dL_law_692 dL_law_693 dL_law_694 dL_law_695 (by decide) (law_in e3 hi hL rfl (by decide)) ?_
  refine g_two (w1 := wX9 a9 c σ1) (st1 := [.int r, .int r]) (gr_V (n := 1) (rest := [.int r]) (pc := 696) hx hb hml hown hts9 (cX9_open_met l D c a9 (sc (x3 + nI 1).toNatClampNeg) σ r σ1 q9) gL_law_X9_open rfl rfl rfl (by decide +kernel) rfl ⟨Nat.le_of_ble_eq_true rfl, Nat.le_of_ble_eq_true rfl⟩ ⟨Nat.le_of_ble_eq_true rfl, Nat.le_of_ble_eq_true rfl⟩ 0 9 rfl rfl rfl gT_ok hW.2.1 hW.2.2.2.1 hK (fun _ _ _ => trivial) hl.1 (Nat.le_of_ble_eq_true rfl) dL_law_696 rfl) hW.swap hS hA rfl (fun H locs hW hS => ?_)
  have hW := hW.swap
  exact lv_icmp_eq (tgt := 1111) hx hb dL_law_699 (by decide) (fun _ => KK X σ1 H locs hR1 hW hS) (fun q => absurd rfl q)
set_option maxRecDepth 100000 in
set_option maxHeartbeats 4000000 in
/-- prime -/
theorem law_case18 (C : LC p s m meth cd b L sc D c tb sa sv) (hR : Rel X σ) (hW : L2 D (fun q : Nat => s.heap.size ≤ q) (wX a c X) (wX9 a9 c σ) H) (hS : va_S (fun q : Nat => s.heap.size ≤ q) s.heap H locs) (e3 : x3 = nI i) (hi : i + 7 ≤ L) (hl : lv_has ls 4 (lwl a a9 b x3)) (KK : LKK p l e s m below meth cd b D c a a9 ls) : LW p l e s m below meth cd b H locs 704 ls [] := by
  obtain ⟨⟨hx, hb, hr, hml, hown, hts, hX, hbl, hlocks, hgv⟩, hL, hK, hE⟩ := id C
  have hA : ∀ q : Nat, s.heap.size ≤ q → (fun q : Nat => s.heap.size ≤ q) q := fun _ h => h
  have hown : s.vm.findClass RL = some m.cls := hown
  have hts9 : ∀ w ∈ wsL_law, w.before #[Value.ref b] s = true := fun w h => hts w (wsL_law_in w h)
  obtain ⟨r, X1, σ1, q8, q9, hR1⟩ := sim_prime hR (sc (x3 + nI 1).toNatClampNeg)
  refine lv_aload_n hx hb dL_law_704 rfl (lv_at hl 1 rfl) ?_
  refine law_ld (k := nI 1) C hS hl dL_law_705 dL_law_706 dL_law_707 dL_law_708 dL_law_709 (by decide) (law_in e3 hi hL rfl (by decide)) ?_
  refine g_two (w1 := wX a c X1) (st1 := [.int r]) (gr_V (n := 1) (rest := []) (pc := 710) hx hb hml hown hts9 (cX8_prime_met l D c tb sa sv a (sc (x3 + nI 1).toNatClampNeg) X r X1 q8) gL_law_X8_prime rfl rfl rfl (by decide +kernel) rfl ⟨Nat.le_of_ble_eq_true rfl, Nat.le_of_ble_eq_true rfl⟩ ⟨Nat.le_of_ble_eq_true rfl, Nat.le_of_ble_eq_true rfl⟩ 0 8 rfl rfl rfl xE_ok hW.1 hW.2.2.1 hK (xE_ok.tr hE hS (g_free hW.2.2.1 hS hA)) hl.1 (Nat.le_of_ble_eq_true rfl) dL_law_710 rfl) hW hS hA rfl (fun H locs hW hS => ?_)
  refine lv_aload_n hx hb dL_law_713 rfl (lv_at hl 2 rfl) ?_
  refine law_ld (k := nI 1) C hS hl dL_law_714 dL_law_715 dL_law_716 dL_law_717 dL_law_718 (by decide) (law_in e3 hi hL rfl (by decide)) ?_
  refine g_two (w1 := wX9 a9 c σ1) (st1 := [.int r, .int r]) (gr_V (n := 1) (rest := [.int r]) (pc := 719) hx hb hml hown hts9 (cX9_prime_met l D c a9 (sc (x3 + nI 1).toNatClampNeg) σ r σ1 q9) gL_law_X9_prime rfl rfl rfl (by decide +kernel) rfl ⟨Nat.le_of_ble_eq_true rfl, Nat.le_of_ble_eq_true rfl⟩ ⟨Nat.le_of_ble_eq_true rfl, Nat.le_of_ble_eq_true rfl⟩ 0 9 rfl rfl rfl gT_ok hW.2.1 hW.2.2.2.1 hK (fun _ _ _ => trivial) hl.1 (Nat.le_of_ble_eq_true rfl) dL_law_719 rfl) hW.swap hS hA rfl (fun H locs hW hS => ?_)
  have hW := hW.swap
  exact lv_icmp_eq (tgt := 1111) hx hb dL_law_722 (by decide) (fun _ => KK X1 σ1 H locs hR1 hW hS) (fun q => absurd rfl q)
set_option maxRecDepth 100000 in
set_option maxHeartbeats 4000000 in
/-- added -/
theorem law_case19 (C : LC p s m meth cd b L sc D c tb sa sv) (hR : Rel X σ) (hW : L2 D (fun q : Nat => s.heap.size ≤ q) (wX a c X) (wX9 a9 c σ) H) (hS : va_S (fun q : Nat => s.heap.size ≤ q) s.heap H locs) (e3 : x3 = nI i) (hi : i + 7 ≤ L) (hl : lv_has ls 4 (lwl a a9 b x3)) (KK : LKK p l e s m below meth cd b D c a a9 ls) : LW p l e s m below meth cd b H locs 727 ls [] := by
  obtain ⟨⟨hx, hb, hr, hml, hown, hts, hX, hbl, hlocks, hgv⟩, hL, hK, hE⟩ := id C
  have hA : ∀ q : Nat, s.heap.size ≤ q → (fun q : Nat => s.heap.size ≤ q) q := fun _ h => h
  have hown : s.vm.findClass RL = some m.cls := hown
  have hts9 : ∀ w ∈ wsL_law, w.before #[Value.ref b] s = true := fun w h => hts w (wsL_law_in w h)
  obtain ⟨r, X1, σ1, q8, q9, hR1⟩ := sim_added hR (sc (x3 + nI 1).toNatClampNeg)
  refine lv_aload_n hx hb dL_law_727 rfl (lv_at hl 1 rfl) ?_
  refine law_ld (k := nI 1) C hS hl dL_law_728 dL_law_729 dL_law_730 dL_law_731 dL_law_732 (by decide) (law_in e3 hi hL rfl (by decide)) ?_
  refine g_two (w1 := wX a c X1) (st1 := [.long r]) (gr_V (n := 1) (rest := []) (pc := 733) hx hb hml hown hts9 (cX8_added_met l D c tb sa sv a (sc (x3 + nI 1).toNatClampNeg) X r X1 q8) gL_law_X8_added rfl rfl rfl (by decide +kernel) rfl ⟨Nat.le_of_ble_eq_true rfl, Nat.le_of_ble_eq_true rfl⟩ ⟨Nat.le_of_ble_eq_true rfl, Nat.le_of_ble_eq_true rfl⟩ 0 8 rfl rfl rfl xE_ok hW.1 hW.2.2.1 hK (xE_ok.tr hE hS (g_free hW.2.2.1 hS hA)) hl.1 (Nat.le_of_ble_eq_true rfl) dL_law_733 rfl) hW hS hA rfl (fun H locs hW hS => ?_)
  refine lv_aload_n hx hb dL_law_736 rfl (lv_at hl 2 rfl) ?_
  refine law_ld (k := nI 1) C hS hl dL_law_737 dL_law_738 dL_law_739 dL_law_740 dL_law_741 (by decide) (law_in e3 hi hL rfl (by decide)) ?_
  refine g_two (w1 := wX9 a9 c σ1) (st1 := [.long r, .long r]) (gr_V (n := 1) (rest := [.long r]) (pc := 742) hx hb hml hown hts9 (cX9_added_met l D c a9 (sc (x3 + nI 1).toNatClampNeg) σ r σ1 q9) gL_law_X9_added rfl rfl rfl (by decide +kernel) rfl ⟨Nat.le_of_ble_eq_true rfl, Nat.le_of_ble_eq_true rfl⟩ ⟨Nat.le_of_ble_eq_true rfl, Nat.le_of_ble_eq_true rfl⟩ 0 9 rfl rfl rfl gT_ok hW.2.1 hW.2.2.2.1 hK (fun _ _ _ => trivial) hl.1 (Nat.le_of_ble_eq_true rfl) dL_law_742 rfl) hW.swap hS hA rfl (fun H locs hW hS => ?_)
  have hW := hW.swap
  refine W.lcmp hx hb dL_law_745 ?_
  rw [law_cmp]
  exact lv_if_eq (tgt := 1111) hx hb dL_law_746 (by decide) (fun _ => KK X1 σ1 H locs hR1 hW hS) (fun q => absurd rfl q)
set_option maxRecDepth 100000 in
set_option maxHeartbeats 4000000 in
/-- told -/
theorem law_case20 (C : LC p s m meth cd b L sc D c tb sa sv) (hR : Rel X σ) (hW : L2 D (fun q : Nat => s.heap.size ≤ q) (wX a c X) (wX9 a9 c σ) H) (hS : va_S (fun q : Nat => s.heap.size ≤ q) s.heap H locs) (e3 : x3 = nI i) (hi : i + 7 ≤ L) (hl : lv_has ls 4 (lwl a a9 b x3)) (KK : LKK p l e s m below meth cd b D c a a9 ls) : LW p l e s m below meth cd b H locs 751 ls [] := by
  obtain ⟨⟨hx, hb, hr, hml, hown, hts, hX, hbl, hlocks, hgv⟩, hL, hK, hE⟩ := id C
  have hA : ∀ q : Nat, s.heap.size ≤ q → (fun q : Nat => s.heap.size ≤ q) q := fun _ h => h
  have hown : s.vm.findClass RL = some m.cls := hown
  have hts9 : ∀ w ∈ wsL_law, w.before #[Value.ref b] s = true := fun w h => hts w (wsL_law_in w h)
  obtain ⟨r, X1, σ1, q8, q9, hR1⟩ := sim_told hR (sc (x3 + nI 1).toNatClampNeg) (sc (x3 + nI 2).toNatClampNeg) (sc (x3 + nI 3).toNatClampNeg) (sc (x3 + nI 4).toNatClampNeg)
  refine lv_aload_n hx hb dL_law_751 rfl (lv_at hl 1 rfl) ?_
  refine law_ld (k := nI 1) C hS hl dL_law_752 dL_law_753 dL_law_754 dL_law_755 dL_law_756 (by decide) (law_in e3 hi hL rfl (by decide)) ?_
  refine law_ld (k := nI 2) C hS hl dL_law_757 dL_law_758 dL_law_759 dL_law_760 dL_law_761 (by decide) (law_in e3 hi hL rfl (by decide)) ?_
  refine law_ld (k := nI 3) C hS hl dL_law_762 dL_law_763 dL_law_764 dL_law_765 dL_law_766 (by decide) (law_in e3 hi hL rfl (by decide)) ?_
  refine law_ld (k := nI 4) C hS hl dL_law_767 dL_law_768 dL_law_769 dL_law_770 dL_law_771 (by decide) (law_in e3 hi hL rfl (by decide)) ?_
  refine g_two (w1 := wX a c X1) (st1 := [.int r]) (gr_V (n := 4) (rest := []) (pc := 772) hx hb hml hown hts9 (cX8_told_met l D c tb sa sv a (sc (x3 + nI 1).toNatClampNeg) (sc (x3 + nI 2).toNatClampNeg) (sc (x3 + nI 3).toNatClampNeg) (sc (x3 + nI 4).toNatClampNeg) X r X1 q8) gL_law_X8_told rfl rfl rfl (by decide +kernel) rfl ⟨Nat.le_of_ble_eq_true rfl, Nat.le_of_ble_eq_true rfl⟩ ⟨Nat.le_of_ble_eq_true rfl, Nat.le_of_ble_eq_true rfl⟩ 0 8 rfl rfl rfl xE_ok hW.1 hW.2.2.1 hK (xE_ok.tr hE hS (g_free hW.2.2.1 hS hA)) hl.1 (Nat.le_of_ble_eq_true rfl) dL_law_772 rfl) hW hS hA rfl (fun H locs hW hS => ?_)
  refine lv_aload_n hx hb dL_law_775 rfl (lv_at hl 2 rfl) ?_
  refine law_ld (k := nI 1) C hS hl dL_law_776 dL_law_777 dL_law_778 dL_law_779 dL_law_780 (by decide) (law_in e3 hi hL rfl (by decide)) ?_
  refine law_ld (k := nI 2) C hS hl dL_law_781 dL_law_782 dL_law_783 dL_law_784 dL_law_785 (by decide) (law_in e3 hi hL rfl (by decide)) ?_
  refine law_ld (k := nI 3) C hS hl dL_law_786 dL_law_787 dL_law_788 dL_law_789 dL_law_790 (by decide) (law_in e3 hi hL rfl (by decide)) ?_
  refine law_ld (k := nI 4) C hS hl dL_law_791 dL_law_792 dL_law_793 dL_law_794 dL_law_795 (by decide) (law_in e3 hi hL rfl (by decide)) ?_
  refine g_two (w1 := wX9 a9 c σ1) (st1 := [.int r, .int r]) (gr_V (n := 4) (rest := [.int r]) (pc := 796) hx hb hml hown hts9 (cX9_told__met l D c a9 (sc (x3 + nI 1).toNatClampNeg) (sc (x3 + nI 2).toNatClampNeg) (sc (x3 + nI 3).toNatClampNeg) (sc (x3 + nI 4).toNatClampNeg) σ r σ1 q9) gL_law_X9_told_ rfl rfl rfl (by decide +kernel) rfl ⟨Nat.le_of_ble_eq_true rfl, Nat.le_of_ble_eq_true rfl⟩ ⟨Nat.le_of_ble_eq_true rfl, Nat.le_of_ble_eq_true rfl⟩ 0 9 rfl rfl rfl gT_ok hW.2.1 hW.2.2.2.1 hK (fun _ _ _ => trivial) hl.1 (Nat.le_of_ble_eq_true rfl) dL_law_796 rfl) hW.swap hS hA rfl (fun H locs hW hS => ?_)
  have hW := hW.swap
  exact lv_icmp_eq (tgt := 1111) hx hb dL_law_799 (by decide) (fun _ => KK X1 σ1 H locs hR1 hW hS) (fun q => absurd rfl q)
set_option maxRecDepth 100000 in
set_option maxHeartbeats 4000000 in
/-- film -/
theorem law_case21 (C : LC p s m meth cd b L sc D c tb sa sv) (hR : Rel X σ) (hW : L2 D (fun q : Nat => s.heap.size ≤ q) (wX a c X) (wX9 a9 c σ) H) (hS : va_S (fun q : Nat => s.heap.size ≤ q) s.heap H locs) (e3 : x3 = nI i) (hi : i + 7 ≤ L) (hl : lv_has ls 4 (lwl a a9 b x3)) (KK : LKK p l e s m below meth cd b D c a a9 ls) : LW p l e s m below meth cd b H locs 804 ls [] := by
  obtain ⟨⟨hx, hb, hr, hml, hown, hts, hX, hbl, hlocks, hgv⟩, hL, hK, hE⟩ := id C
  have hA : ∀ q : Nat, s.heap.size ≤ q → (fun q : Nat => s.heap.size ≤ q) q := fun _ h => h
  have hown : s.vm.findClass RL = some m.cls := hown
  have hts9 : ∀ w ∈ wsL_law, w.before #[Value.ref b] s = true := fun w h => hts w (wsL_law_in w h)
  obtain ⟨r, X1, σ1, q8, q9, hR1⟩ := sim_film hR (sc (x3 + nI 1).toNatClampNeg) (sc (x3 + nI 2).toNatClampNeg) (sc (x3 + nI 3).toNatClampNeg)
  refine lv_aload_n hx hb dL_law_804 rfl (lv_at hl 1 rfl) ?_
  refine law_ld (k := nI 1) C hS hl dL_law_805 dL_law_806 dL_law_807 dL_law_808 dL_law_809 (by decide) (law_in e3 hi hL rfl (by decide)) ?_
  refine law_ld (k := nI 2) C hS hl dL_law_810 dL_law_811 dL_law_812 dL_law_813 dL_law_814 (by decide) (law_in e3 hi hL rfl (by decide)) ?_
  refine law_ld (k := nI 3) C hS hl dL_law_815 dL_law_816 dL_law_817 dL_law_818 dL_law_819 (by decide) (law_in e3 hi hL rfl (by decide)) ?_
  refine g_two (w1 := wX a c X1) (st1 := [.int r]) (gr_V (n := 3) (rest := []) (pc := 820) hx hb hml hown hts9 (cX8_film_met l D c tb sa sv a (sc (x3 + nI 1).toNatClampNeg) (sc (x3 + nI 2).toNatClampNeg) (sc (x3 + nI 3).toNatClampNeg) X r X1 q8) gL_law_X8_film rfl rfl rfl (by decide +kernel) rfl ⟨Nat.le_of_ble_eq_true rfl, Nat.le_of_ble_eq_true rfl⟩ ⟨Nat.le_of_ble_eq_true rfl, Nat.le_of_ble_eq_true rfl⟩ 0 8 rfl rfl rfl xE_ok hW.1 hW.2.2.1 hK (xE_ok.tr hE hS (g_free hW.2.2.1 hS hA)) hl.1 (Nat.le_of_ble_eq_true rfl) dL_law_820 rfl) hW hS hA rfl (fun H locs hW hS => ?_)
  refine lv_aload_n hx hb dL_law_823 rfl (lv_at hl 2 rfl) ?_
  refine law_ld (k := nI 1) C hS hl dL_law_824 dL_law_825 dL_law_826 dL_law_827 dL_law_828 (by decide) (law_in e3 hi hL rfl (by decide)) ?_
  refine law_ld (k := nI 2) C hS hl dL_law_829 dL_law_830 dL_law_831 dL_law_832 dL_law_833 (by decide) (law_in e3 hi hL rfl (by decide)) ?_
  refine law_ld (k := nI 3) C hS hl dL_law_834 dL_law_835 dL_law_836 dL_law_837 dL_law_838 (by decide) (law_in e3 hi hL rfl (by decide)) ?_
  refine g_two (w1 := wX9 a9 c σ1) (st1 := [.int r, .int r]) (gr_V (n := 3) (rest := [.int r]) (pc := 839) hx hb hml hown hts9 (cX9_film_met l D c a9 (sc (x3 + nI 1).toNatClampNeg) (sc (x3 + nI 2).toNatClampNeg) (sc (x3 + nI 3).toNatClampNeg) σ r σ1 q9) gL_law_X9_film rfl rfl rfl (by decide +kernel) rfl ⟨Nat.le_of_ble_eq_true rfl, Nat.le_of_ble_eq_true rfl⟩ ⟨Nat.le_of_ble_eq_true rfl, Nat.le_of_ble_eq_true rfl⟩ 0 9 rfl rfl rfl gT_ok hW.2.1 hW.2.2.2.1 hK (fun _ _ _ => trivial) hl.1 (Nat.le_of_ble_eq_true rfl) dL_law_839 rfl) hW.swap hS hA rfl (fun H locs hW hS => ?_)
  have hW := hW.swap
  exact lv_icmp_eq (tgt := 1111) hx hb dL_law_842 (by decide) (fun _ => KK X1 σ1 H locs hR1 hW hS) (fun q => absurd rfl q)
set_option maxRecDepth 100000 in
set_option maxHeartbeats 4000000 in
/-- undo -/
theorem law_case22 (C : LC p s m meth cd b L sc D c tb sa sv) (hR : Rel X σ) (hW : L2 D (fun q : Nat => s.heap.size ≤ q) (wX a c X) (wX9 a9 c σ) H) (hS : va_S (fun q : Nat => s.heap.size ≤ q) s.heap H locs) (e3 : x3 = nI i) (hi : i + 7 ≤ L) (hl : lv_has ls 4 (lwl a a9 b x3)) (KK : LKK p l e s m below meth cd b D c a a9 ls) : LW p l e s m below meth cd b H locs 847 ls [] := by
  obtain ⟨⟨hx, hb, hr, hml, hown, hts, hX, hbl, hlocks, hgv⟩, hL, hK, hE⟩ := id C
  have hA : ∀ q : Nat, s.heap.size ≤ q → (fun q : Nat => s.heap.size ≤ q) q := fun _ h => h
  have hown : s.vm.findClass RL = some m.cls := hown
  have hts9 : ∀ w ∈ wsL_law, w.before #[Value.ref b] s = true := fun w h => hts w (wsL_law_in w h)
  obtain ⟨r, X1, σ1, q8, q9, hR1⟩ := sim_undo hR 
  refine lv_aload_n hx hb dL_law_847 rfl (lv_at hl 1 rfl) ?_
  refine g_two (w1 := wX a c X1) (st1 := [.int r]) (gr_V (n := 0) (rest := []) (pc := 848) hx hb hml hown hts9 (cX8_undo_met l D c tb sa sv a  X r X1 q8) gL_law_X8_undo rfl rfl rfl (by decide +kernel) rfl ⟨Nat.le_of_ble_eq_true rfl, Nat.le_of_ble_eq_true rfl⟩ ⟨Nat.le_of_ble_eq_true rfl, Nat.le_of_ble_eq_true rfl⟩ 0 8 rfl rfl rfl xE_ok hW.1 hW.2.2.1 hK (xE_ok.tr hE hS (g_free hW.2.2.1 hS hA)) hl.1 (Nat.le_of_ble_eq_true rfl) dL_law_848 rfl) hW hS hA rfl (fun H locs hW hS => ?_)
  refine lv_aload_n hx hb dL_law_851 rfl (lv_at hl 2 rfl) ?_
  refine g_two (w1 := wX9 a9 c σ1) (st1 := [.int r, .int r]) (gr_V (n := 0) (rest := [.int r]) (pc := 852) hx hb hml hown hts9 (cX9_undo_met l D c a9  σ r σ1 q9) gL_law_X9_undo rfl rfl rfl (by decide +kernel) rfl ⟨Nat.le_of_ble_eq_true rfl, Nat.le_of_ble_eq_true rfl⟩ ⟨Nat.le_of_ble_eq_true rfl, Nat.le_of_ble_eq_true rfl⟩ 0 9 rfl rfl rfl gT_ok hW.2.1 hW.2.2.2.1 hK (fun _ _ _ => trivial) hl.1 (Nat.le_of_ble_eq_true rfl) dL_law_852 rfl) hW.swap hS hA rfl (fun H locs hW hS => ?_)
  have hW := hW.swap
  exact lv_icmp_eq (tgt := 1111) hx hb dL_law_855 (by decide) (fun _ => KK X1 σ1 H locs hR1 hW hS) (fun q => absurd rfl q)
set_option maxRecDepth 100000 in
set_option maxHeartbeats 4000000 in
/-- image -/
theorem law_case23 (C : LC p s m meth cd b L sc D c tb sa sv) (hR : Rel X σ) (hW : L2 D (fun q : Nat => s.heap.size ≤ q) (wX a c X) (wX9 a9 c σ) H) (hS : va_S (fun q : Nat => s.heap.size ≤ q) s.heap H locs) (e3 : x3 = nI i) (hi : i + 7 ≤ L) (hl : lv_has ls 4 (lwl a a9 b x3)) (KK : LKK p l e s m below meth cd b D c a a9 ls) : LW p l e s m below meth cd b H locs 860 ls [] := by
  obtain ⟨⟨hx, hb, hr, hml, hown, hts, hX, hbl, hlocks, hgv⟩, hL, hK, hE⟩ := id C
  have hA : ∀ q : Nat, s.heap.size ≤ q → (fun q : Nat => s.heap.size ≤ q) q := fun _ h => h
  have hown : s.vm.findClass RL = some m.cls := hown
  have hts9 : ∀ w ∈ wsL_law, w.before #[Value.ref b] s = true := fun w h => hts w (wsL_law_in w h)
  obtain ⟨r, X1, σ1, q8, q9, hR1⟩ := sim_image hR 
  refine lv_aload_n hx hb dL_law_860 rfl (lv_at hl 1 rfl) ?_
  refine g_two (w1 := wX a c X1) (st1 := [.int r]) (gr_V (n := 0) (rest := []) (pc := 861) hx hb hml hown hts9 (cX8_image_met l D c tb sa sv a  X r X1 q8) gL_law_X8_image rfl rfl rfl (by decide +kernel) rfl ⟨Nat.le_of_ble_eq_true rfl, Nat.le_of_ble_eq_true rfl⟩ ⟨Nat.le_of_ble_eq_true rfl, Nat.le_of_ble_eq_true rfl⟩ 0 8 rfl rfl rfl xE_ok hW.1 hW.2.2.1 hK (xE_ok.tr hE hS (g_free hW.2.2.1 hS hA)) hl.1 (Nat.le_of_ble_eq_true rfl) dL_law_861 rfl) hW hS hA rfl (fun H locs hW hS => ?_)
  refine lv_aload_n hx hb dL_law_864 rfl (lv_at hl 2 rfl) ?_
  refine g_two (w1 := wX9 a9 c σ1) (st1 := [.int r, .int r]) (gr_V (n := 0) (rest := [.int r]) (pc := 865) hx hb hml hown hts9 (cX9_image_met l D c a9  σ r σ1 q9) gL_law_X9_image rfl rfl rfl (by decide +kernel) rfl ⟨Nat.le_of_ble_eq_true rfl, Nat.le_of_ble_eq_true rfl⟩ ⟨Nat.le_of_ble_eq_true rfl, Nat.le_of_ble_eq_true rfl⟩ 0 9 rfl rfl rfl gT_ok hW.2.1 hW.2.2.2.1 hK (fun _ _ _ => trivial) hl.1 (Nat.le_of_ble_eq_true rfl) dL_law_865 rfl) hW.swap hS hA rfl (fun H locs hW hS => ?_)
  have hW := hW.swap
  exact lv_icmp_eq (tgt := 1111) hx hb dL_law_868 (by decide) (fun _ => KK X1 σ1 H locs hR1 hW hS) (fun q => absurd rfl q)
set_option maxRecDepth 100000 in
set_option maxHeartbeats 4000000 in
/-- back -/
theorem law_case24 (C : LC p s m meth cd b L sc D c tb sa sv) (hR : Rel X σ) (hW : L2 D (fun q : Nat => s.heap.size ≤ q) (wX a c X) (wX9 a9 c σ) H) (hS : va_S (fun q : Nat => s.heap.size ≤ q) s.heap H locs) (e3 : x3 = nI i) (hi : i + 7 ≤ L) (hl : lv_has ls 4 (lwl a a9 b x3)) (KK : LKK p l e s m below meth cd b D c a a9 ls) : LW p l e s m below meth cd b H locs 873 ls [] := by
  obtain ⟨⟨hx, hb, hr, hml, hown, hts, hX, hbl, hlocks, hgv⟩, hL, hK, hE⟩ := id C
  have hA : ∀ q : Nat, s.heap.size ≤ q → (fun q : Nat => s.heap.size ≤ q) q := fun _ h => h
  have hown : s.vm.findClass RL = some m.cls := hown
  have hts9 : ∀ w ∈ wsL_law, w.before #[Value.ref b] s = true := fun w h => hts w (wsL_law_in w h)
  obtain ⟨r, X1, σ1, q8, q9, hR1⟩ := sim_back hR 
  refine lv_aload_n hx hb dL_law_873 rfl (lv_at hl 1 rfl) ?_
  refine g_two (w1 := wX a c X1) (st1 := [.int r]) (gr_V (n := 0) (rest := []) (pc := 874) hx hb hml hown hts9 (cX8_back_met l D c tb sa sv a  X r X1 q8) gL_law_X8_back rfl rfl rfl (by decide +kernel) rfl ⟨Nat.le_of_ble_eq_true rfl, Nat.le_of_ble_eq_true rfl⟩ ⟨Nat.le_of_ble_eq_true rfl, Nat.le_of_ble_eq_true rfl⟩ 0 8 rfl rfl rfl xE_ok hW.1 hW.2.2.1 hK (xE_ok.tr hE hS (g_free hW.2.2.1 hS hA)) hl.1 (Nat.le_of_ble_eq_true rfl) dL_law_874 rfl) hW hS hA rfl (fun H locs hW hS => ?_)
  refine lv_aload_n hx hb dL_law_877 rfl (lv_at hl 2 rfl) ?_
  refine g_two (w1 := wX9 a9 c σ1) (st1 := [.int r, .int r]) (gr_V (n := 0) (rest := [.int r]) (pc := 878) hx hb hml hown hts9 (cX9_back_met l D c a9  σ r σ1 q9) gL_law_X9_back rfl rfl rfl (by decide +kernel) rfl ⟨Nat.le_of_ble_eq_true rfl, Nat.le_of_ble_eq_true rfl⟩ ⟨Nat.le_of_ble_eq_true rfl, Nat.le_of_ble_eq_true rfl⟩ 0 9 rfl rfl rfl gT_ok hW.2.1 hW.2.2.2.1 hK (fun _ _ _ => trivial) hl.1 (Nat.le_of_ble_eq_true rfl) dL_law_878 rfl) hW.swap hS hA rfl (fun H locs hW hS => ?_)
  have hW := hW.swap
  exact lv_icmp_eq (tgt := 1111) hx hb dL_law_881 (by decide) (fun _ => KK X1 σ1 H locs hR1 hW hS) (fun q => absurd rfl q)
set_option maxRecDepth 100000 in
set_option maxHeartbeats 4000000 in
/-- count -/
theorem law_case25 (C : LC p s m meth cd b L sc D c tb sa sv) (hR : Rel X σ) (hW : L2 D (fun q : Nat => s.heap.size ≤ q) (wX a c X) (wX9 a9 c σ) H) (hS : va_S (fun q : Nat => s.heap.size ≤ q) s.heap H locs) (e3 : x3 = nI i) (hi : i + 7 ≤ L) (hl : lv_has ls 4 (lwl a a9 b x3)) (KK : LKK p l e s m below meth cd b D c a a9 ls) : LW p l e s m below meth cd b H locs 886 ls [] := by
  obtain ⟨⟨hx, hb, hr, hml, hown, hts, hX, hbl, hlocks, hgv⟩, hL, hK, hE⟩ := id C
  have hA : ∀ q : Nat, s.heap.size ≤ q → (fun q : Nat => s.heap.size ≤ q) q := fun _ h => h
  have hown : s.vm.findClass RL = some m.cls := hown
  have hts9 : ∀ w ∈ wsL_law, w.before #[Value.ref b] s = true := fun w h => hts w (wsL_law_in w h)
  obtain ⟨r, q8, q9⟩ := sim_count hR (sc (x3 + nI 1).toNatClampNeg)
  refine lv_aload_n hx hb dL_law_886 rfl (lv_at hl 1 rfl) ?_
  refine law_ld (k := nI 1) C hS hl dL_law_887 dL_law_888 dL_law_889 dL_law_890 dL_law_891 (by decide) (law_in e3 hi hL rfl (by decide)) ?_
  refine g_two (w1 := wX a c X) (st1 := [.int r]) (gr_V (n := 1) (rest := []) (pc := 892) hx hb hml hown hts9 (cX8_count_met l D c tb sa sv a (sc (x3 + nI 1).toNatClampNeg) X r q8) gL_law_X8_count rfl rfl rfl (by decide +kernel) rfl ⟨Nat.le_of_ble_eq_true rfl, Nat.le_of_ble_eq_true rfl⟩ ⟨Nat.le_of_ble_eq_true rfl, Nat.le_of_ble_eq_true rfl⟩ 0 8 rfl rfl rfl xE_ok hW.1 hW.2.2.1 hK (xE_ok.tr hE hS (g_free hW.2.2.1 hS hA)) hl.1 (Nat.le_of_ble_eq_true rfl) dL_law_892 rfl) hW hS hA rfl (fun H locs hW hS => ?_)
  refine lv_aload_n hx hb dL_law_895 rfl (lv_at hl 2 rfl) ?_
  refine law_ld (k := nI 1) C hS hl dL_law_896 dL_law_897 dL_law_898 dL_law_899 dL_law_900 (by decide) (law_in e3 hi hL rfl (by decide)) ?_
  refine g_two (w1 := wX9 a9 c σ) (st1 := [.int r, .int r]) (gr_V (n := 1) (rest := [.int r]) (pc := 901) hx hb hml hown hts9 (cX9_count_met l D c a9 (sc (x3 + nI 1).toNatClampNeg) σ r q9) gL_law_X9_count rfl rfl rfl (by decide +kernel) rfl ⟨Nat.le_of_ble_eq_true rfl, Nat.le_of_ble_eq_true rfl⟩ ⟨Nat.le_of_ble_eq_true rfl, Nat.le_of_ble_eq_true rfl⟩ 0 9 rfl rfl rfl gT_ok hW.2.1 hW.2.2.2.1 hK (fun _ _ _ => trivial) hl.1 (Nat.le_of_ble_eq_true rfl) dL_law_901 rfl) hW.swap hS hA rfl (fun H locs hW hS => ?_)
  have hW := hW.swap
  exact lv_icmp_eq (tgt := 1111) hx hb dL_law_904 (by decide) (fun _ => KK X σ H locs hR hW hS) (fun q => absurd rfl q)
set_option maxRecDepth 100000 in
set_option maxHeartbeats 4000000 in
/-- sheet -/
theorem law_case26 (C : LC p s m meth cd b L sc D c tb sa sv) (hR : Rel X σ) (hW : L2 D (fun q : Nat => s.heap.size ≤ q) (wX a c X) (wX9 a9 c σ) H) (hS : va_S (fun q : Nat => s.heap.size ≤ q) s.heap H locs) (e3 : x3 = nI i) (hi : i + 7 ≤ L) (hl : lv_has ls 4 (lwl a a9 b x3)) (KK : LKK p l e s m below meth cd b D c a a9 ls) : LW p l e s m below meth cd b H locs 909 ls [] := by
  obtain ⟨⟨hx, hb, hr, hml, hown, hts, hX, hbl, hlocks, hgv⟩, hL, hK, hE⟩ := id C
  have hA : ∀ q : Nat, s.heap.size ≤ q → (fun q : Nat => s.heap.size ≤ q) q := fun _ h => h
  have hown : s.vm.findClass RL = some m.cls := hown
  have hts9 : ∀ w ∈ wsL_law, w.before #[Value.ref b] s = true := fun w h => hts w (wsL_law_in w h)
  obtain ⟨r, X1, σ1, q8, q9, hR1⟩ := sim_sheet hR (sc (x3 + nI 1).toNatClampNeg) (sc (x3 + nI 2).toNatClampNeg) (sc (x3 + nI 3).toNatClampNeg)
  refine lv_aload_n hx hb dL_law_909 rfl (lv_at hl 1 rfl) ?_
  refine law_ld (k := nI 1) C hS hl dL_law_910 dL_law_911 dL_law_912 dL_law_913 dL_law_914 (by decide) (law_in e3 hi hL rfl (by decide)) ?_
  refine law_ld (k := nI 2) C hS hl dL_law_915 dL_law_916 dL_law_917 dL_law_918 dL_law_919 (by decide) (law_in e3 hi hL rfl (by decide)) ?_
  refine law_ld (k := nI 3) C hS hl dL_law_920 dL_law_921 dL_law_922 dL_law_923 dL_law_924 (by decide) (law_in e3 hi hL rfl (by decide)) ?_
  refine g_two (w1 := wX a c X1) (st1 := [.int r]) (gr_V (n := 3) (rest := []) (pc := 925) hx hb hml hown hts9 (cX8_sheet_met l D c tb sa sv a (sc (x3 + nI 1).toNatClampNeg) (sc (x3 + nI 2).toNatClampNeg) (sc (x3 + nI 3).toNatClampNeg) X r X1 q8) gL_law_X8_sheet rfl rfl rfl (by decide +kernel) rfl ⟨Nat.le_of_ble_eq_true rfl, Nat.le_of_ble_eq_true rfl⟩ ⟨Nat.le_of_ble_eq_true rfl, Nat.le_of_ble_eq_true rfl⟩ 0 8 rfl rfl rfl xE_ok hW.1 hW.2.2.1 hK (xE_ok.tr hE hS (g_free hW.2.2.1 hS hA)) hl.1 (Nat.le_of_ble_eq_true rfl) dL_law_925 rfl) hW hS hA rfl (fun H locs hW hS => ?_)
  refine lv_aload_n hx hb dL_law_928 rfl (lv_at hl 2 rfl) ?_
  refine law_ld (k := nI 1) C hS hl dL_law_929 dL_law_930 dL_law_931 dL_law_932 dL_law_933 (by decide) (law_in e3 hi hL rfl (by decide)) ?_
  refine law_ld (k := nI 2) C hS hl dL_law_934 dL_law_935 dL_law_936 dL_law_937 dL_law_938 (by decide) (law_in e3 hi hL rfl (by decide)) ?_
  refine law_ld (k := nI 3) C hS hl dL_law_939 dL_law_940 dL_law_941 dL_law_942 dL_law_943 (by decide) (law_in e3 hi hL rfl (by decide)) ?_
  refine g_two (w1 := wX9 a9 c σ1) (st1 := [.int r, .int r]) (gr_V (n := 3) (rest := [.int r]) (pc := 944) hx hb hml hown hts9 (cX9_sheet_met l D c a9 (sc (x3 + nI 1).toNatClampNeg) (sc (x3 + nI 2).toNatClampNeg) (sc (x3 + nI 3).toNatClampNeg) σ r σ1 q9) gL_law_X9_sheet rfl rfl rfl (by decide +kernel) rfl ⟨Nat.le_of_ble_eq_true rfl, Nat.le_of_ble_eq_true rfl⟩ ⟨Nat.le_of_ble_eq_true rfl, Nat.le_of_ble_eq_true rfl⟩ 0 9 rfl rfl rfl gT_ok hW.2.1 hW.2.2.2.1 hK (fun _ _ _ => trivial) hl.1 (Nat.le_of_ble_eq_true rfl) dL_law_944 rfl) hW.swap hS hA rfl (fun H locs hW hS => ?_)
  have hW := hW.swap
  exact lv_icmp_eq (tgt := 1111) hx hb dL_law_947 (by decide) (fun _ => KK X1 σ1 H locs hR1 hW hS) (fun q => absurd rfl q)
set_option maxRecDepth 100000 in
set_option maxHeartbeats 4000000 in
/-- put -/
theorem law_case27 (C : LC p s m meth cd b L sc D c tb sa sv) (hR : Rel X σ) (hW : L2 D (fun q : Nat => s.heap.size ≤ q) (wX a c X) (wX9 a9 c σ) H) (hS : va_S (fun q : Nat => s.heap.size ≤ q) s.heap H locs) (e3 : x3 = nI i) (hi : i + 7 ≤ L) (hl : lv_has ls 4 (lwl a a9 b x3)) (KK : LKK p l e s m below meth cd b D c a a9 ls) : LW p l e s m below meth cd b H locs 952 ls [] := by
  obtain ⟨⟨hx, hb, hr, hml, hown, hts, hX, hbl, hlocks, hgv⟩, hL, hK, hE⟩ := id C
  have hA : ∀ q : Nat, s.heap.size ≤ q → (fun q : Nat => s.heap.size ≤ q) q := fun _ h => h
  have hown : s.vm.findClass RL = some m.cls := hown
  have hts9 : ∀ w ∈ wsL_law, w.before #[Value.ref b] s = true := fun w h => hts w (wsL_law_in w h)
  obtain ⟨r, X1, σ1, q8, q9, hR1⟩ := sim_put hR (sc (x3 + nI 1).toNatClampNeg) (sc (x3 + nI 2).toNatClampNeg) (sc (x3 + nI 3).toNatClampNeg)
  refine lv_aload_n hx hb dL_law_952 rfl (lv_at hl 1 rfl) ?_
  refine law_ld (k := nI 1) C hS hl dL_law_953 dL_law_954 dL_law_955 dL_law_956 dL_law_957 (by decide) (law_in e3 hi hL rfl (by decide)) ?_
  refine law_ld (k := nI 2) C hS hl dL_law_958 dL_law_959 dL_law_960 dL_law_961 dL_law_962 (by decide) (law_in e3 hi hL rfl (by decide)) ?_
  refine law_ld (k := nI 3) C hS hl dL_law_963 dL_law_964 dL_law_965 dL_law_966 dL_law_967 (by decide) (law_in e3 hi hL rfl (by decide)) ?_
  refine g_two (w1 := wX a c X1) (st1 := [.int r]) (gr_V (n := 3) (rest := []) (pc := 968) hx hb hml hown hts9 (cX8_put_met l D c tb sa sv a (sc (x3 + nI 1).toNatClampNeg) (sc (x3 + nI 2).toNatClampNeg) (sc (x3 + nI 3).toNatClampNeg) X r X1 q8) gL_law_X8_put rfl rfl rfl (by decide +kernel) rfl ⟨Nat.le_of_ble_eq_true rfl, Nat.le_of_ble_eq_true rfl⟩ ⟨Nat.le_of_ble_eq_true rfl, Nat.le_of_ble_eq_true rfl⟩ 0 8 rfl rfl rfl xE_ok hW.1 hW.2.2.1 hK (xE_ok.tr hE hS (g_free hW.2.2.1 hS hA)) hl.1 (Nat.le_of_ble_eq_true rfl) dL_law_968 rfl) hW hS hA rfl (fun H locs hW hS => ?_)
  refine lv_aload_n hx hb dL_law_971 rfl (lv_at hl 2 rfl) ?_
  refine law_ld (k := nI 1) C hS hl dL_law_972 dL_law_973 dL_law_974 dL_law_975 dL_law_976 (by decide) (law_in e3 hi hL rfl (by decide)) ?_
  refine law_ld (k := nI 2) C hS hl dL_law_977 dL_law_978 dL_law_979 dL_law_980 dL_law_981 (by decide) (law_in e3 hi hL rfl (by decide)) ?_
  refine law_ld (k := nI 3) C hS hl dL_law_982 dL_law_983 dL_law_984 dL_law_985 dL_law_986 (by decide) (law_in e3 hi hL rfl (by decide)) ?_
  refine g_two (w1 := wX9 a9 c σ1) (st1 := [.int r, .int r]) (gr_V (n := 3) (rest := [.int r]) (pc := 987) hx hb hml hown hts9 (cX9_put_met l D c a9 (sc (x3 + nI 1).toNatClampNeg) (sc (x3 + nI 2).toNatClampNeg) (sc (x3 + nI 3).toNatClampNeg) σ r σ1 q9) gL_law_X9_put rfl rfl rfl (by decide +kernel) rfl ⟨Nat.le_of_ble_eq_true rfl, Nat.le_of_ble_eq_true rfl⟩ ⟨Nat.le_of_ble_eq_true rfl, Nat.le_of_ble_eq_true rfl⟩ 0 9 rfl rfl rfl gT_ok hW.2.1 hW.2.2.2.1 hK (fun _ _ _ => trivial) hl.1 (Nat.le_of_ble_eq_true rfl) dL_law_987 rfl) hW.swap hS hA rfl (fun H locs hW hS => ?_)
  have hW := hW.swap
  exact lv_icmp_eq (tgt := 1111) hx hb dL_law_990 (by decide) (fun _ => KK X1 σ1 H locs hR1 hW hS) (fun q => absurd rfl q)
set_option maxRecDepth 100000 in
set_option maxHeartbeats 4000000 in
/-- copy -/
theorem law_case28 (C : LC p s m meth cd b L sc D c tb sa sv) (hR : Rel X σ) (hW : L2 D (fun q : Nat => s.heap.size ≤ q) (wX a c X) (wX9 a9 c σ) H) (hS : va_S (fun q : Nat => s.heap.size ≤ q) s.heap H locs) (e3 : x3 = nI i) (hi : i + 7 ≤ L) (hl : lv_has ls 4 (lwl a a9 b x3)) (KK : LKK p l e s m below meth cd b D c a a9 ls) : LW p l e s m below meth cd b H locs 995 ls [] := by
  obtain ⟨⟨hx, hb, hr, hml, hown, hts, hX, hbl, hlocks, hgv⟩, hL, hK, hE⟩ := id C
  have hA : ∀ q : Nat, s.heap.size ≤ q → (fun q : Nat => s.heap.size ≤ q) q := fun _ h => h
  have hown : s.vm.findClass RL = some m.cls := hown
  have hts9 : ∀ w ∈ wsL_law, w.before #[Value.ref b] s = true := fun w h => hts w (wsL_law_in w h)
  obtain ⟨r, X1, σ1, q8, q9, hR1⟩ := sim_copy hR (sc (x3 + nI 1).toNatClampNeg) (sc (x3 + nI 2).toNatClampNeg) (sc (x3 + nI 3).toNatClampNeg) (sc (x3 + nI 4).toNatClampNeg) (sc (x3 + nI 5).toNatClampNeg)
  refine lv_aload_n hx hb dL_law_995 rfl (lv_at hl 1 rfl) ?_
  refine law_ld (k := nI 1) C hS hl dL_law_996 dL_law_997 dL_law_998 dL_law_999 dL_law_1000 (by decide) (law_in e3 hi hL rfl (by decide)) ?_
  refine law_ld (k := nI 2) C hS hl dL_law_1001 dL_law_1002 dL_law_1003 dL_law_1004 dL_law_1005 (by decide) (law_in e3 hi hL rfl (by decide)) ?_
  refine law_ld (k := nI 3) C hS hl dL_law_1006 dL_law_1007 dL_law_1008 dL_law_1009 dL_law_1010 (by decide) (law_in e3 hi hL rfl (by decide)) ?_
  refine law_ld (k := nI 4) C hS hl dL_law_1011 dL_law_1012 dL_law_1013 dL_law_1014 dL_law_1015 (by decide) (law_in e3 hi hL rfl (by decide)) ?_
  refine law_ld (k := nI 5) C hS hl dL_law_1016 dL_law_1017 dL_law_1018 dL_law_1019 dL_law_1020 (by decide) (law_in e3 hi hL rfl (by decide)) ?_
  refine g_two (w1 := wX a c X1) (st1 := [.int r]) (gr_V (n := 5) (rest := []) (pc := 1021) hx hb hml hown hts9 (cX8_copy_met l D c tb sa sv a (sc (x3 + nI 1).toNatClampNeg) (sc (x3 + nI 2).toNatClampNeg) (sc (x3 + nI 3).toNatClampNeg) (sc (x3 + nI 4).toNatClampNeg) (sc (x3 + nI 5).toNatClampNeg) X r X1 q8) gL_law_X8_copy rfl rfl rfl (by decide +kernel) rfl ⟨Nat.le_of_ble_eq_true rfl, Nat.le_of_ble_eq_true rfl⟩ ⟨Nat.le_of_ble_eq_true rfl, Nat.le_of_ble_eq_true rfl⟩ 0 8 rfl rfl rfl xE_ok hW.1 hW.2.2.1 hK (xE_ok.tr hE hS (g_free hW.2.2.1 hS hA)) hl.1 (Nat.le_of_ble_eq_true rfl) dL_law_1021 rfl) hW hS hA rfl (fun H locs hW hS => ?_)
  refine lv_aload_n hx hb dL_law_1024 rfl (lv_at hl 2 rfl) ?_
  refine law_ld (k := nI 1) C hS hl dL_law_1025 dL_law_1026 dL_law_1027 dL_law_1028 dL_law_1029 (by decide) (law_in e3 hi hL rfl (by decide)) ?_
  refine law_ld (k := nI 2) C hS hl dL_law_1030 dL_law_1031 dL_law_1032 dL_law_1033 dL_law_1034 (by decide) (law_in e3 hi hL rfl (by decide)) ?_
  refine law_ld (k := nI 3) C hS hl dL_law_1035 dL_law_1036 dL_law_1037 dL_law_1038 dL_law_1039 (by decide) (law_in e3 hi hL rfl (by decide)) ?_
  refine law_ld (k := nI 4) C hS hl dL_law_1040 dL_law_1041 dL_law_1042 dL_law_1043 dL_law_1044 (by decide) (law_in e3 hi hL rfl (by decide)) ?_
  refine law_ld (k := nI 5) C hS hl dL_law_1045 dL_law_1046 dL_law_1047 dL_law_1048 dL_law_1049 (by decide) (law_in e3 hi hL rfl (by decide)) ?_
  refine g_two (w1 := wX9 a9 c σ1) (st1 := [.int r, .int r]) (gr_V (n := 5) (rest := [.int r]) (pc := 1050) hx hb hml hown hts9 (cX9_copy_met l D c a9 (sc (x3 + nI 1).toNatClampNeg) (sc (x3 + nI 2).toNatClampNeg) (sc (x3 + nI 3).toNatClampNeg) (sc (x3 + nI 4).toNatClampNeg) (sc (x3 + nI 5).toNatClampNeg) σ r σ1 q9) gL_law_X9_copy rfl rfl rfl (by decide +kernel) rfl ⟨Nat.le_of_ble_eq_true rfl, Nat.le_of_ble_eq_true rfl⟩ ⟨Nat.le_of_ble_eq_true rfl, Nat.le_of_ble_eq_true rfl⟩ 0 9 rfl rfl rfl gT_ok hW.2.1 hW.2.2.2.1 hK (fun _ _ _ => trivial) hl.1 (Nat.le_of_ble_eq_true rfl) dL_law_1050 rfl) hW.swap hS hA rfl (fun H locs hW hS => ?_)
  have hW := hW.swap
  exact lv_icmp_eq (tgt := 1111) hx hb dL_law_1053 (by decide) (fun _ => KK X1 σ1 H locs hR1 hW hS) (fun q => absurd rfl q)
set_option maxRecDepth 100000 in
set_option maxHeartbeats 4000000 in
/-- load -/
theorem law_case29 (C : LC p s m meth cd b L sc D c tb sa sv) (hR : Rel X σ) (hW : L2 D (fun q : Nat => s.heap.size ≤ q) (wX a c X) (wX9 a9 c σ) H) (hS : va_S (fun q : Nat => s.heap.size ≤ q) s.heap H locs) (e3 : x3 = nI i) (hi : i + 7 ≤ L) (hl : lv_has ls 4 (lwl a a9 b x3)) (KK : LKK p l e s m below meth cd b D c a a9 ls) : LW p l e s m below meth cd b H locs 1058 ls [] := by
  obtain ⟨⟨hx, hb, hr, hml, hown, hts, hX, hbl, hlocks, hgv⟩, hL, hK, hE⟩ := id C
  have hA : ∀ q : Nat, s.heap.size ≤ q → (fun q : Nat => s.heap.size ≤ q) q := fun _ h => h
  have hown : s.vm.findClass RL = some m.cls := hown
  have hts9 : ∀ w ∈ wsL_law, w.before #[Value.ref b] s = true := fun w h => hts w (wsL_law_in w h)
  obtain ⟨r, X1, σ1, q8, q9, hR1⟩ := sim_load hR (sc (x3 + nI 1).toNatClampNeg) (sc (x3 + nI 2).toNatClampNeg) (sc (x3 + nI 3).toNatClampNeg) (sc (x3 + nI 4).toNatClampNeg)
  refine lv_aload_n hx hb dL_law_1058 rfl (lv_at hl 1 rfl) ?_
  refine law_ld (k := nI 1) C hS hl dL_law_1059 dL_law_1060 dL_law_1061 dL_law_1062 dL_law_1063 (by decide) (law_in e3 hi hL rfl (by decide)) ?_
  refine law_ld (k := nI 2) C hS hl dL_law_1064 dL_law_1065 dL_law_1066 dL_law_1067 dL_law_1068 (by decide) (law_in e3 hi hL rfl (by decide)) ?_
  refine law_ld (k := nI 3) C hS hl dL_law_1069 dL_law_1070 dL_law_1071 dL_law_1072 dL_law_1073 (by decide) (law_in e3 hi hL rfl (by decide)) ?_
  refine law_ld (k := nI 4) C hS hl dL_law_1074 dL_law_1075 dL_law_1076 dL_law_1077 dL_law_1078 (by decide) (law_in e3 hi hL rfl (by decide)) ?_
  refine g_two (w1 := wX a c X1) (st1 := [.int r]) (gr_V (n := 4) (rest := []) (pc := 1079) hx hb hml hown hts9 (cX8_load_met l D c tb sa sv a (sc (x3 + nI 1).toNatClampNeg) (sc (x3 + nI 2).toNatClampNeg) (sc (x3 + nI 3).toNatClampNeg) (sc (x3 + nI 4).toNatClampNeg) X r X1 q8) gL_law_X8_load rfl rfl rfl (by decide +kernel) rfl ⟨Nat.le_of_ble_eq_true rfl, Nat.le_of_ble_eq_true rfl⟩ ⟨Nat.le_of_ble_eq_true rfl, Nat.le_of_ble_eq_true rfl⟩ 0 8 rfl rfl rfl xE_ok hW.1 hW.2.2.1 hK (xE_ok.tr hE hS (g_free hW.2.2.1 hS hA)) hl.1 (Nat.le_of_ble_eq_true rfl) dL_law_1079 rfl) hW hS hA rfl (fun H locs hW hS => ?_)
  refine lv_aload_n hx hb dL_law_1082 rfl (lv_at hl 2 rfl) ?_
  refine law_ld (k := nI 1) C hS hl dL_law_1083 dL_law_1084 dL_law_1085 dL_law_1086 dL_law_1087 (by decide) (law_in e3 hi hL rfl (by decide)) ?_
  refine law_ld (k := nI 2) C hS hl dL_law_1088 dL_law_1089 dL_law_1090 dL_law_1091 dL_law_1092 (by decide) (law_in e3 hi hL rfl (by decide)) ?_
  refine law_ld (k := nI 3) C hS hl dL_law_1093 dL_law_1094 dL_law_1095 dL_law_1096 dL_law_1097 (by decide) (law_in e3 hi hL rfl (by decide)) ?_
  refine law_ld (k := nI 4) C hS hl dL_law_1098 dL_law_1099 dL_law_1100 dL_law_1101 dL_law_1102 (by decide) (law_in e3 hi hL rfl (by decide)) ?_
  refine g_two (w1 := wX9 a9 c σ1) (st1 := [.int r, .int r]) (gr_V (n := 4) (rest := [.int r]) (pc := 1103) hx hb hml hown hts9 (cX9_load_met l D c a9 (sc (x3 + nI 1).toNatClampNeg) (sc (x3 + nI 2).toNatClampNeg) (sc (x3 + nI 3).toNatClampNeg) (sc (x3 + nI 4).toNatClampNeg) σ r σ1 q9) gL_law_X9_load rfl rfl rfl (by decide +kernel) rfl ⟨Nat.le_of_ble_eq_true rfl, Nat.le_of_ble_eq_true rfl⟩ ⟨Nat.le_of_ble_eq_true rfl, Nat.le_of_ble_eq_true rfl⟩ 0 9 rfl rfl rfl gT_ok hW.2.1 hW.2.2.2.1 hK (fun _ _ _ => trivial) hl.1 (Nat.le_of_ble_eq_true rfl) dL_law_1103 rfl) hW.swap hS hA rfl (fun H locs hW hS => ?_)
  have hW := hW.swap
  exact lv_icmp_eq (tgt := 1111) hx hb dL_law_1106 (by decide) (fun _ => KK X1 σ1 H locs hR1 hW hS) (fun q => absurd rfl q)
end LAWC
