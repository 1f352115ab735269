/-! THE LAW'S CASES, by program -/
set_option maxHeartbeats 4000000 in
set_option maxRecDepth 100000 in
theorem lc_tongues {p : Program} {l : Launch} {e : Env} {s : State} {m : MethodId} {below : List Frame} {meth : Method} {c : Code} {b L i : Nat} {xs : Nat → Int32} {D : va_G} {g : zG} {ad0 ad1 : Nat → Nat} {Q : State → Prop} (C : lwC p s m c b L i xs D g) {σ τ : zSt} {H : Heap} {locs : List Loc} {ls : Array Slot} (hI : Inv σ τ) (hw : zL2 D g 0 ad0 (fun q => s.heap.size ≤ q) s.heap σ (zW g 1 ad1 τ) H locs) (hl : lv_has ls 4 [(0, .ref b), (1, .ref (ad0 0)), (2, .ref (ad1 0)), (3, .int (nI i))]) (hk : ∀ (σ τ : zSt) (H : Heap) (locs : List Loc), Inv σ τ → zL2 D g 0 ad0 (fun q => s.heap.size ≤ q) s.heap σ (zW g 1 ad1 τ) H locs → W p l e room_1 s m #[.ref b] below meth c H locs 101 14404 Q (F0 m 1616 ls [])) : W p l e room_1 s m #[.ref b] below meth c H locs 101 14404 Q (F0 m 188 ls []) := by
  obtain ⟨hx, hb, hml, hown, hts, hK, hX, hbl, hi, hL⟩ := C
  have hA : ∀ q : Nat, s.heap.size ≤ q → (fun q : Nat => s.heap.size ≤ q) q := fun _ h => h
  have hbA : ¬ (fun q : Nat => s.heap.size ≤ q) b := Nat.not_le.mpr hbl
  have v1 := lw_in (a := 1) hi hL (by decide)
  have v2 := lw_in (a := 2) hi hL (by decide)
  have v3 := lw_in (a := 3) hi hL (by decide)
  have v4 := lw_in (a := 4) hi hL (by decide)
  obtain ⟨r, σ', τ', e1, e2, hI⟩ := q_tongues hI (xs (nI i + nI 1).toNatClampNeg) (xs (nI i + nI 2).toNatClampNeg) (xs (nI i + nI 3).toNatClampNeg) (xs (nI i + nI 4).toNatClampNeg)
  refine lv_aload_n hx hb dL_law_188 rfl (lv_at hl 1 rfl) ?_
  refine lv_aload_n hx hb dL_law_189 rfl (lv_at hl 0 rfl) ?_
  refine lv_iload_n hx hb dL_law_190 rfl (lv_at hl 3 rfl) ?_
  refine lv_iconst (v := nI 1) hx hb dL_law_191 (by decide) ?_
  refine lv_iadd hx hb dL_law_192 ?_
  refine va_sld hx hb hX hbl hbA hw.2.2.2 v1 dL_law_193 ?_
  refine lv_aload_n hx hb dL_law_194 rfl (lv_at hl 0 rfl) ?_
  refine lv_iload_n hx hb dL_law_195 rfl (lv_at hl 3 rfl) ?_
  refine lv_iconst (v := nI 2) hx hb dL_law_196 (by decide) ?_
  refine lv_iadd hx hb dL_law_197 ?_
  refine va_sld hx hb hX hbl hbA hw.2.2.2 v2 dL_law_198 ?_
  refine lv_aload_n hx hb dL_law_199 rfl (lv_at hl 0 rfl) ?_
  refine lv_iload_n hx hb dL_law_200 rfl (lv_at hl 3 rfl) ?_
  refine lv_iconst (v := nI 3) hx hb dL_law_201 (by decide) ?_
  refine lv_iadd hx hb dL_law_202 ?_
  refine va_sld hx hb hX hbl hbA hw.2.2.2 v3 dL_law_203 ?_
  refine lv_aload_n hx hb dL_law_204 rfl (lv_at hl 0 rfl) ?_
  refine lv_iload_n hx hb dL_law_205 rfl (lv_at hl 3 rfl) ?_
  refine lv_iconst (v := nI 4) hx hb dL_law_206 (by decide) ?_
  refine lv_iadd hx hb dL_law_207 ?_
  refine va_sld hx hb hX hbl hbA hw.2.2.2 v4 dL_law_208 ?_
  refine z_l2i (b := 0) (As := [.int (xs (nI i + nI 1).toNatClampNeg), .int (xs (nI i + nI 2).toNatClampNeg), .int (xs (nI i + nI 3).toNatClampNeg), .int (xs (nI i + nI 4).toNatClampNeg)]) (rest := []) ⟨hx, hb, hml, hown, hts⟩ hK hw hA (kX10_tongues l D g ad0 σ (xs (nI i + nI 1).toNatClampNeg) (xs (nI i + nI 2).toNatClampNeg) (xs (nI i + nI 3).toNatClampNeg) (xs (nI i + nI 4).toNatClampNeg) (r, σ') e1) (zcwV 4 hts zgoodTbl zw_330 zw_331 zw_332 zw_52 zw_333 rfl rfl hX10_tongues ⟨Nat.le_of_ble_eq_true rfl, Nat.le_of_ble_eq_true rfl⟩) zO0_0 rfl hl.1 rfl (Nat.le_of_ble_eq_true rfl) dL_law_209 ⟨Nat.le_of_ble_eq_true rfl, Nat.le_of_ble_eq_true rfl⟩ (fun H locs hw => ?_)
  have hw := hw.flip
  refine lv_aload_n hx hb dL_law_212 rfl (lv_at hl 2 rfl) ?_
  refine lv_aload_n hx hb dL_law_213 rfl (lv_at hl 0 rfl) ?_
  refine lv_iload_n hx hb dL_law_214 rfl (lv_at hl 3 rfl) ?_
  refine lv_iconst (v := nI 1) hx hb dL_law_215 (by decide) ?_
  refine lv_iadd hx hb dL_law_216 ?_
  refine va_sld hx hb hX hbl hbA hw.2.2.2 v1 dL_law_217 ?_
  refine lv_aload_n hx hb dL_law_218 rfl (lv_at hl 0 rfl) ?_
  refine lv_iload_n hx hb dL_law_219 rfl (lv_at hl 3 rfl) ?_
  refine lv_iconst (v := nI 2) hx hb dL_law_220 (by decide) ?_
  refine lv_iadd hx hb dL_law_221 ?_
  refine va_sld hx hb hX hbl hbA hw.2.2.2 v2 dL_law_222 ?_
  refine lv_aload_n hx hb dL_law_223 rfl (lv_at hl 0 rfl) ?_
  refine lv_iload_n hx hb dL_law_224 rfl (lv_at hl 3 rfl) ?_
  refine lv_iconst (v := nI 3) hx hb dL_law_225 (by decide) ?_
  refine lv_iadd hx hb dL_law_226 ?_
  refine va_sld hx hb hX hbl hbA hw.2.2.2 v3 dL_law_227 ?_
  refine lv_aload_n hx hb dL_law_228 rfl (lv_at hl 0 rfl) ?_
  refine lv_iload_n hx hb dL_law_229 rfl (lv_at hl 3 rfl) ?_
  refine lv_iconst (v := nI 4) hx hb dL_law_230 (by decide) ?_
  refine lv_iadd hx hb dL_law_231 ?_
  refine va_sld hx hb hX hbl hbA hw.2.2.2 v4 dL_law_232 ?_
  refine z_l2i (b := 0) (As := [.int (xs (nI i + nI 1).toNatClampNeg), .int (xs (nI i + nI 2).toNatClampNeg), .int (xs (nI i + nI 3).toNatClampNeg), .int (xs (nI i + nI 4).toNatClampNeg)]) (rest := [_]) ⟨hx, hb, hml, hown, hts⟩ hK hw hA (kX11_tongues l D g ad1 τ (xs (nI i + nI 1).toNatClampNeg) (xs (nI i + nI 2).toNatClampNeg) (xs (nI i + nI 3).toNatClampNeg) (xs (nI i + nI 4).toNatClampNeg) (r, τ') e2) (zcwV 4 hts zgoodTbl zw_923 zw_924 zw_925 zw_64 zw_926 rfl rfl hX11_tongues ⟨Nat.le_of_ble_eq_true rfl, Nat.le_of_ble_eq_true rfl⟩) zO1_0 rfl hl.1 rfl (Nat.le_of_ble_eq_true rfl) dL_law_233 ⟨Nat.le_of_ble_eq_true rfl, Nat.le_of_ble_eq_true rfl⟩ (fun H locs hw => ?_)
  have hw := hw.flip
  refine lv_icmp_eq (tgt := 1616) hx hb dL_law_236 (by decide) (fun _ => ?_) (fun h => absurd rfl h)
  exact hk _ _ _ _ hI hw
set_option maxHeartbeats 4000000 in
set_option maxRecDepth 100000 in
theorem lc_becomes {p : Program} {l : Launch} {e : Env} {s : State} {m : MethodId} {below : List Frame} {meth : Method} {c : Code} {b L i : Nat} {xs : Nat → Int32} {D : va_G} {g : zG} {ad0 ad1 : Nat → Nat} {Q : State → Prop} (C : lwC p s m c b L i xs D g) {σ τ : zSt} {H : Heap} {locs : List Loc} {ls : Array Slot} (hI : Inv σ τ) (hw : zL2 D g 0 ad0 (fun q => s.heap.size ≤ q) s.heap σ (zW g 1 ad1 τ) H locs) (hl : lv_has ls 4 [(0, .ref b), (1, .ref (ad0 0)), (2, .ref (ad1 0)), (3, .int (nI i))]) (hk : ∀ (σ τ : zSt) (H : Heap) (locs : List Loc), Inv σ τ → zL2 D g 0 ad0 (fun q => s.heap.size ≤ q) s.heap σ (zW g 1 ad1 τ) H locs → W p l e room_1 s m #[.ref b] below meth c H locs 101 14404 Q (F0 m 1616 ls [])) : W p l e room_1 s m #[.ref b] below meth c H locs 101 14404 Q (F0 m 241 ls []) := by
  obtain ⟨hx, hb, hml, hown, hts, hK, hX, hbl, hi, hL⟩ := C
  have hA : ∀ q : Nat, s.heap.size ≤ q → (fun q : Nat => s.heap.size ≤ q) q := fun _ h => h
  have hbA : ¬ (fun q : Nat => s.heap.size ≤ q) b := Nat.not_le.mpr hbl
  have v1 := lw_in (a := 1) hi hL (by decide)
  have v2 := lw_in (a := 2) hi hL (by decide)
  have v3 := lw_in (a := 3) hi hL (by decide)
  obtain ⟨r, e1, e2⟩ := q_becomes hI (xs (nI i + nI 1).toNatClampNeg) (xs (nI i + nI 2).toNatClampNeg) (xs (nI i + nI 3).toNatClampNeg)
  refine lv_aload_n hx hb dL_law_241 rfl (lv_at hl 1 rfl) ?_
  refine lv_aload_n hx hb dL_law_242 rfl (lv_at hl 0 rfl) ?_
  refine lv_iload_n hx hb dL_law_243 rfl (lv_at hl 3 rfl) ?_
  refine lv_iconst (v := nI 1) hx hb dL_law_244 (by decide) ?_
  refine lv_iadd hx hb dL_law_245 ?_
  refine va_sld hx hb hX hbl hbA hw.2.2.2 v1 dL_law_246 ?_
  refine lv_aload_n hx hb dL_law_247 rfl (lv_at hl 0 rfl) ?_
  refine lv_iload_n hx hb dL_law_248 rfl (lv_at hl 3 rfl) ?_
  refine lv_iconst (v := nI 2) hx hb dL_law_249 (by decide) ?_
  refine lv_iadd hx hb dL_law_250 ?_
  refine va_sld hx hb hX hbl hbA hw.2.2.2 v2 dL_law_251 ?_
  refine lv_aload_n hx hb dL_law_252 rfl (lv_at hl 0 rfl) ?_
  refine lv_iload_n hx hb dL_law_253 rfl (lv_at hl 3 rfl) ?_
  refine lv_iconst (v := nI 3) hx hb dL_law_254 (by decide) ?_
  refine lv_iadd hx hb dL_law_255 ?_
  refine va_sld hx hb hX hbl hbA hw.2.2.2 v3 dL_law_256 ?_
  refine z_l2i (b := 0) (As := [.int (xs (nI i + nI 1).toNatClampNeg), .int (xs (nI i + nI 2).toNatClampNeg), .int (xs (nI i + nI 3).toNatClampNeg)]) (rest := []) ⟨hx, hb, hml, hown, hts⟩ hK hw hA (kX10_becomes l D g ad0 σ (xs (nI i + nI 1).toNatClampNeg) (xs (nI i + nI 2).toNatClampNeg) (xs (nI i + nI 3).toNatClampNeg) r e1) (zcwV 3 hts zgoodTbl zw_408 zw_409 zw_410 zw_52 zw_411 rfl rfl hX10_becomes ⟨Nat.le_of_ble_eq_true rfl, Nat.le_of_ble_eq_true rfl⟩) zO0_0 rfl hl.1 rfl (Nat.le_of_ble_eq_true rfl) dL_law_257 ⟨Nat.le_of_ble_eq_true rfl, Nat.le_of_ble_eq_true rfl⟩ (fun H locs hw => ?_)
  have hw := hw.flip
  refine lv_aload_n hx hb dL_law_260 rfl (lv_at hl 2 rfl) ?_
  refine lv_aload_n hx hb dL_law_261 rfl (lv_at hl 0 rfl) ?_
  refine lv_iload_n hx hb dL_law_262 rfl (lv_at hl 3 rfl) ?_
  refine lv_iconst (v := nI 1) hx hb dL_law_263 (by decide) ?_
  refine lv_iadd hx hb dL_law_264 ?_
  refine va_sld hx hb hX hbl hbA hw.2.2.2 v1 dL_law_265 ?_
  refine lv_aload_n hx hb dL_law_266 rfl (lv_at hl 0 rfl) ?_
  refine lv_iload_n hx hb dL_law_267 rfl (lv_at hl 3 rfl) ?_
  refine lv_iconst (v := nI 2) hx hb dL_law_268 (by decide) ?_
  refine lv_iadd hx hb dL_law_269 ?_
  refine va_sld hx hb hX hbl hbA hw.2.2.2 v2 dL_law_270 ?_
  refine lv_aload_n hx hb dL_law_271 rfl (lv_at hl 0 rfl) ?_
  refine lv_iload_n hx hb dL_law_272 rfl (lv_at hl 3 rfl) ?_
  refine lv_iconst (v := nI 3) hx hb dL_law_273 (by decide) ?_
  refine lv_iadd hx hb dL_law_274 ?_
  refine va_sld hx hb hX hbl hbA hw.2.2.2 v3 dL_law_275 ?_
  refine z_l2i (b := 0) (As := [.int (xs (nI i + nI 1).toNatClampNeg), .int (xs (nI i + nI 2).toNatClampNeg), .int (xs (nI i + nI 3).toNatClampNeg)]) (rest := [_]) ⟨hx, hb, hml, hown, hts⟩ hK hw hA (kX11_becomes l D g ad1 τ (xs (nI i + nI 1).toNatClampNeg) (xs (nI i + nI 2).toNatClampNeg) (xs (nI i + nI 3).toNatClampNeg) r e2) (zcwV 3 hts zgoodTbl zw_960 zw_961 zw_962 zw_64 zw_963 rfl rfl hX11_becomes ⟨Nat.le_of_ble_eq_true rfl, Nat.le_of_ble_eq_true rfl⟩) zO1_0 rfl hl.1 rfl (Nat.le_of_ble_eq_true rfl) dL_law_276 ⟨Nat.le_of_ble_eq_true rfl, Nat.le_of_ble_eq_true rfl⟩ (fun H locs hw => ?_)
  have hw := hw.flip
  refine lv_icmp_eq (tgt := 1616) hx hb dL_law_279 (by decide) (fun _ => ?_) (fun h => absurd rfl h)
  exact hk _ _ _ _ hI hw
set_option maxHeartbeats 4000000 in
set_option maxRecDepth 100000 in
theorem lc_meant {p : Program} {l : Launch} {e : Env} {s : State} {m : MethodId} {below : List Frame} {meth : Method} {c : Code} {b L i : Nat} {xs : Nat → Int32} {D : va_G} {g : zG} {ad0 ad1 : Nat → Nat} {Q : State → Prop} (C : lwC p s m c b L i xs D g) {σ τ : zSt} {H : Heap} {locs : List Loc} {ls : Array Slot} (hI : Inv σ τ) (hw : zL2 D g 0 ad0 (fun q => s.heap.size ≤ q) s.heap σ (zW g 1 ad1 τ) H locs) (hl : lv_has ls 4 [(0, .ref b), (1, .ref (ad0 0)), (2, .ref (ad1 0)), (3, .int (nI i))]) (hk : ∀ (σ τ : zSt) (H : Heap) (locs : List Loc), Inv σ τ → zL2 D g 0 ad0 (fun q => s.heap.size ≤ q) s.heap σ (zW g 1 ad1 τ) H locs → W p l e room_1 s m #[.ref b] below meth c H locs 101 14404 Q (F0 m 1616 ls [])) : W p l e room_1 s m #[.ref b] below meth c H locs 101 14404 Q (F0 m 284 ls []) := by
  obtain ⟨hx, hb, hml, hown, hts, hK, hX, hbl, hi, hL⟩ := C
  have hA : ∀ q : Nat, s.heap.size ≤ q → (fun q : Nat => s.heap.size ≤ q) q := fun _ h => h
  have hbA : ¬ (fun q : Nat => s.heap.size ≤ q) b := Nat.not_le.mpr hbl
  have v1 := lw_in (a := 1) hi hL (by decide)
  have v2 := lw_in (a := 2) hi hL (by decide)
  obtain ⟨r, e1, e2⟩ := q_meant hI (xs (nI i + nI 1).toNatClampNeg) (xs (nI i + nI 2).toNatClampNeg)
  refine lv_aload_n hx hb dL_law_284 rfl (lv_at hl 1 rfl) ?_
  refine lv_aload_n hx hb dL_law_285 rfl (lv_at hl 0 rfl) ?_
  refine lv_iload_n hx hb dL_law_286 rfl (lv_at hl 3 rfl) ?_
  refine lv_iconst (v := nI 1) hx hb dL_law_287 (by decide) ?_
  refine lv_iadd hx hb dL_law_288 ?_
  refine va_sld hx hb hX hbl hbA hw.2.2.2 v1 dL_law_289 ?_
  refine lv_aload_n hx hb dL_law_290 rfl (lv_at hl 0 rfl) ?_
  refine lv_iload_n hx hb dL_law_291 rfl (lv_at hl 3 rfl) ?_
  refine lv_iconst (v := nI 2) hx hb dL_law_292 (by decide) ?_
  refine lv_iadd hx hb dL_law_293 ?_
  refine va_sld hx hb hX hbl hbA hw.2.2.2 v2 dL_law_294 ?_
  refine z_l2i (b := 0) (As := [.int (xs (nI i + nI 1).toNatClampNeg), .int (xs (nI i + nI 2).toNatClampNeg)]) (rest := []) ⟨hx, hb, hml, hown, hts⟩ hK hw hA (kX10_meant l D g ad0 σ (xs (nI i + nI 1).toNatClampNeg) (xs (nI i + nI 2).toNatClampNeg) r e1) (zcwV 2 hts zgoodTbl zw_427 zw_428 zw_429 zw_52 zw_430 rfl rfl hX10_meant ⟨Nat.le_of_ble_eq_true rfl, Nat.le_of_ble_eq_true rfl⟩) zO0_0 rfl hl.1 rfl (Nat.le_of_ble_eq_true rfl) dL_law_295 ⟨Nat.le_of_ble_eq_true rfl, Nat.le_of_ble_eq_true rfl⟩ (fun H locs hw => ?_)
  have hw := hw.flip
  refine lv_aload_n hx hb dL_law_298 rfl (lv_at hl 2 rfl) ?_
  refine lv_aload_n hx hb dL_law_299 rfl (lv_at hl 0 rfl) ?_
  refine lv_iload_n hx hb dL_law_300 rfl (lv_at hl 3 rfl) ?_
  refine lv_iconst (v := nI 1) hx hb dL_law_301 (by decide) ?_
  refine lv_iadd hx hb dL_law_302 ?_
  refine va_sld hx hb hX hbl hbA hw.2.2.2 v1 dL_law_303 ?_
  refine lv_aload_n hx hb dL_law_304 rfl (lv_at hl 0 rfl) ?_
  refine lv_iload_n hx hb dL_law_305 rfl (lv_at hl 3 rfl) ?_
  refine lv_iconst (v := nI 2) hx hb dL_law_306 (by decide) ?_
  refine lv_iadd hx hb dL_law_307 ?_
  refine va_sld hx hb hX hbl hbA hw.2.2.2 v2 dL_law_308 ?_
  refine z_l2i (b := 0) (As := [.int (xs (nI i + nI 1).toNatClampNeg), .int (xs (nI i + nI 2).toNatClampNeg)]) (rest := [_]) ⟨hx, hb, hml, hown, hts⟩ hK hw hA (kX11_meant l D g ad1 τ (xs (nI i + nI 1).toNatClampNeg) (xs (nI i + nI 2).toNatClampNeg) r e2) (zcwV 2 hts zgoodTbl zw_981 zw_982 zw_983 zw_64 zw_984 rfl rfl hX11_meant ⟨Nat.le_of_ble_eq_true rfl, Nat.le_of_ble_eq_true rfl⟩) zO1_0 rfl hl.1 rfl (Nat.le_of_ble_eq_true rfl) dL_law_309 ⟨Nat.le_of_ble_eq_true rfl, Nat.le_of_ble_eq_true rfl⟩ (fun H locs hw => ?_)
  have hw := hw.flip
  refine lv_icmp_eq (tgt := 1616) hx hb dL_law_312 (by decide) (fun _ => ?_) (fun h => absurd rfl h)
  exact hk _ _ _ _ hI hw
set_option maxHeartbeats 4000000 in
set_option maxRecDepth 100000 in
theorem lc_alike {p : Program} {l : Launch} {e : Env} {s : State} {m : MethodId} {below : List Frame} {meth : Method} {c : Code} {b L i : Nat} {xs : Nat → Int32} {D : va_G} {g : zG} {ad0 ad1 : Nat → Nat} {Q : State → Prop} (C : lwC p s m c b L i xs D g) {σ τ : zSt} {H : Heap} {locs : List Loc} {ls : Array Slot} (hI : Inv σ τ) (hw : zL2 D g 0 ad0 (fun q => s.heap.size ≤ q) s.heap σ (zW g 1 ad1 τ) H locs) (hl : lv_has ls 4 [(0, .ref b), (1, .ref (ad0 0)), (2, .ref (ad1 0)), (3, .int (nI i))]) (hk : ∀ (σ τ : zSt) (H : Heap) (locs : List Loc), Inv σ τ → zL2 D g 0 ad0 (fun q => s.heap.size ≤ q) s.heap σ (zW g 1 ad1 τ) H locs → W p l e room_1 s m #[.ref b] below meth c H locs 101 14404 Q (F0 m 1616 ls [])) : W p l e room_1 s m #[.ref b] below meth c H locs 101 14404 Q (F0 m 317 ls []) := by
  obtain ⟨hx, hb, hml, hown, hts, hK, hX, hbl, hi, hL⟩ := C
  have hA : ∀ q : Nat, s.heap.size ≤ q → (fun q : Nat => s.heap.size ≤ q) q := fun _ h => h
  have hbA : ¬ (fun q : Nat => s.heap.size ≤ q) b := Nat.not_le.mpr hbl
  have v1 := lw_in (a := 1) hi hL (by decide)
  have v2 := lw_in (a := 2) hi hL (by decide)
  obtain ⟨r, e1, e2⟩ := q_alike hI (xs (nI i + nI 1).toNatClampNeg) (xs (nI i + nI 2).toNatClampNeg)
  refine lv_aload_n hx hb dL_law_317 rfl (lv_at hl 1 rfl) ?_
  refine lv_aload_n hx hb dL_law_318 rfl (lv_at hl 0 rfl) ?_
  refine lv_iload_n hx hb dL_law_319 rfl (lv_at hl 3 rfl) ?_
  refine lv_iconst (v := nI 1) hx hb dL_law_320 (by decide) ?_
  refine lv_iadd hx hb dL_law_321 ?_
  refine va_sld hx hb hX hbl hbA hw.2.2.2 v1 dL_law_322 ?_
  refine lv_aload_n hx hb dL_law_323 rfl (lv_at hl 0 rfl) ?_
  refine lv_iload_n hx hb dL_law_324 rfl (lv_at hl 3 rfl) ?_
  refine lv_iconst (v := nI 2) hx hb dL_law_325 (by decide) ?_
  refine lv_iadd hx hb dL_law_326 ?_
  refine va_sld hx hb hX hbl hbA hw.2.2.2 v2 dL_law_327 ?_
  refine z_l2i (b := 0) (As := [.int (xs (nI i + nI 1).toNatClampNeg), .int (xs (nI i + nI 2).toNatClampNeg)]) (rest := []) ⟨hx, hb, hml, hown, hts⟩ hK hw hA (kX10_alike l D g ad0 σ (xs (nI i + nI 1).toNatClampNeg) (xs (nI i + nI 2).toNatClampNeg) r e1) (zcwV 2 hts zgoodTbl zw_435 zw_436 zw_437 zw_52 zw_438 rfl rfl hX10_alike ⟨Nat.le_of_ble_eq_true rfl, Nat.le_of_ble_eq_true rfl⟩) zO0_0 rfl hl.1 rfl (Nat.le_of_ble_eq_true rfl) dL_law_328 ⟨Nat.le_of_ble_eq_true rfl, Nat.le_of_ble_eq_true rfl⟩ (fun H locs hw => ?_)
  have hw := hw.flip
  refine lv_aload_n hx hb dL_law_331 rfl (lv_at hl 2 rfl) ?_
  refine lv_aload_n hx hb dL_law_332 rfl (lv_at hl 0 rfl) ?_
  refine lv_iload_n hx hb dL_law_333 rfl (lv_at hl 3 rfl) ?_
  refine lv_iconst (v := nI 1) hx hb dL_law_334 (by decide) ?_
  refine lv_iadd hx hb dL_law_335 ?_
  refine va_sld hx hb hX hbl hbA hw.2.2.2 v1 dL_law_336 ?_
  refine lv_aload_n hx hb dL_law_337 rfl (lv_at hl 0 rfl) ?_
  refine lv_iload_n hx hb dL_law_338 rfl (lv_at hl 3 rfl) ?_
  refine lv_iconst (v := nI 2) hx hb dL_law_339 (by decide) ?_
  refine lv_iadd hx hb dL_law_340 ?_
  refine va_sld hx hb hX hbl hbA hw.2.2.2 v2 dL_law_341 ?_
  refine z_l2i (b := 0) (As := [.int (xs (nI i + nI 1).toNatClampNeg), .int (xs (nI i + nI 2).toNatClampNeg)]) (rest := [_]) ⟨hx, hb, hml, hown, hts⟩ hK hw hA (kX11_alike l D g ad1 τ (xs (nI i + nI 1).toNatClampNeg) (xs (nI i + nI 2).toNatClampNeg) r e2) (zcwV 2 hts zgoodTbl zw_989 zw_990 zw_991 zw_64 zw_992 rfl rfl hX11_alike ⟨Nat.le_of_ble_eq_true rfl, Nat.le_of_ble_eq_true rfl⟩) zO1_0 rfl hl.1 rfl (Nat.le_of_ble_eq_true rfl) dL_law_342 ⟨Nat.le_of_ble_eq_true rfl, Nat.le_of_ble_eq_true rfl⟩ (fun H locs hw => ?_)
  have hw := hw.flip
  refine lv_icmp_eq (tgt := 1616) hx hb dL_law_345 (by decide) (fun _ => ?_) (fun h => absurd rfl h)
  exact hk _ _ _ _ hI hw
set_option maxHeartbeats 4000000 in
set_option maxRecDepth 100000 in
theorem lc_interpreter {p : Program} {l : Launch} {e : Env} {s : State} {m : MethodId} {below : List Frame} {meth : Method} {c : Code} {b L i : Nat} {xs : Nat → Int32} {D : va_G} {g : zG} {ad0 ad1 : Nat → Nat} {Q : State → Prop} (C : lwC p s m c b L i xs D g) {σ τ : zSt} {H : Heap} {locs : List Loc} {ls : Array Slot} (hI : Inv σ τ) (hw : zL2 D g 0 ad0 (fun q => s.heap.size ≤ q) s.heap σ (zW g 1 ad1 τ) H locs) (hl : lv_has ls 4 [(0, .ref b), (1, .ref (ad0 0)), (2, .ref (ad1 0)), (3, .int (nI i))]) (hk : ∀ (σ τ : zSt) (H : Heap) (locs : List Loc), Inv σ τ → zL2 D g 0 ad0 (fun q => s.heap.size ≤ q) s.heap σ (zW g 1 ad1 τ) H locs → W p l e room_1 s m #[.ref b] below meth c H locs 101 14404 Q (F0 m 1616 ls [])) : W p l e room_1 s m #[.ref b] below meth c H locs 101 14404 Q (F0 m 350 ls []) := by
  obtain ⟨hx, hb, hml, hown, hts, hK, hX, hbl, hi, hL⟩ := C
  have hA : ∀ q : Nat, s.heap.size ≤ q → (fun q : Nat => s.heap.size ≤ q) q := fun _ h => h
  have hbA : ¬ (fun q : Nat => s.heap.size ≤ q) b := Nat.not_le.mpr hbl
  have v1 := lw_in (a := 1) hi hL (by decide)
  have v2 := lw_in (a := 2) hi hL (by decide)
  obtain ⟨r, σ', τ', e1, e2, hI⟩ := q_interpreter hI (xs (nI i + nI 1).toNatClampNeg) (xs (nI i + nI 2).toNatClampNeg)
  refine lv_aload_n hx hb dL_law_350 rfl (lv_at hl 1 rfl) ?_
  refine lv_aload_n hx hb dL_law_351 rfl (lv_at hl 0 rfl) ?_
  refine lv_iload_n hx hb dL_law_352 rfl (lv_at hl 3 rfl) ?_
  refine lv_iconst (v := nI 1) hx hb dL_law_353 (by decide) ?_
  refine lv_iadd hx hb dL_law_354 ?_
  refine va_sld hx hb hX hbl hbA hw.2.2.2 v1 dL_law_355 ?_
  refine lv_aload_n hx hb dL_law_356 rfl (lv_at hl 0 rfl) ?_
  refine lv_iload_n hx hb dL_law_357 rfl (lv_at hl 3 rfl) ?_
  refine lv_iconst (v := nI 2) hx hb dL_law_358 (by decide) ?_
  refine lv_iadd hx hb dL_law_359 ?_
  refine va_sld hx hb hX hbl hbA hw.2.2.2 v2 dL_law_360 ?_
  refine z_l2i (b := 0) (As := [.int (xs (nI i + nI 1).toNatClampNeg), .int (xs (nI i + nI 2).toNatClampNeg)]) (rest := []) ⟨hx, hb, hml, hown, hts⟩ hK hw hA (kX10_interpreter l D g ad0 σ (xs (nI i + nI 1).toNatClampNeg) (xs (nI i + nI 2).toNatClampNeg) (r, σ') e1) (zcwV 2 hts zgoodTbl zw_444 zw_445 zw_446 zw_52 zw_447 rfl rfl hX10_interpreter ⟨Nat.le_of_ble_eq_true rfl, Nat.le_of_ble_eq_true rfl⟩) zO0_0 rfl hl.1 rfl (Nat.le_of_ble_eq_true rfl) dL_law_361 ⟨Nat.le_of_ble_eq_true rfl, Nat.le_of_ble_eq_true rfl⟩ (fun H locs hw => ?_)
  have hw := hw.flip
  refine lv_aload_n hx hb dL_law_364 rfl (lv_at hl 2 rfl) ?_
  refine lv_aload_n hx hb dL_law_365 rfl (lv_at hl 0 rfl) ?_
  refine lv_iload_n hx hb dL_law_366 rfl (lv_at hl 3 rfl) ?_
  refine lv_iconst (v := nI 1) hx hb dL_law_367 (by decide) ?_
  refine lv_iadd hx hb dL_law_368 ?_
  refine va_sld hx hb hX hbl hbA hw.2.2.2 v1 dL_law_369 ?_
  refine lv_aload_n hx hb dL_law_370 rfl (lv_at hl 0 rfl) ?_
  refine lv_iload_n hx hb dL_law_371 rfl (lv_at hl 3 rfl) ?_
  refine lv_iconst (v := nI 2) hx hb dL_law_372 (by decide) ?_
  refine lv_iadd hx hb dL_law_373 ?_
  refine va_sld hx hb hX hbl hbA hw.2.2.2 v2 dL_law_374 ?_
  refine z_l2i (b := 0) (As := [.int (xs (nI i + nI 1).toNatClampNeg), .int (xs (nI i + nI 2).toNatClampNeg)]) (rest := [_]) ⟨hx, hb, hml, hown, hts⟩ hK hw hA (kX11_interpreter l D g ad1 τ (xs (nI i + nI 1).toNatClampNeg) (xs (nI i + nI 2).toNatClampNeg) (r, τ') e2) (zcwV 2 hts zgoodTbl zw_993 zw_994 zw_995 zw_64 zw_996 rfl rfl hX11_interpreter ⟨Nat.le_of_ble_eq_true rfl, Nat.le_of_ble_eq_true rfl⟩) zO1_0 rfl hl.1 rfl (Nat.le_of_ble_eq_true rfl) dL_law_375 ⟨Nat.le_of_ble_eq_true rfl, Nat.le_of_ble_eq_true rfl⟩ (fun H locs hw => ?_)
  have hw := hw.flip
  refine lv_icmp_eq (tgt := 1616) hx hb dL_law_378 (by decide) (fun _ => ?_) (fun h => absurd rfl h)
  exact hk _ _ _ _ hI hw
set_option maxHeartbeats 4000000 in
set_option maxRecDepth 100000 in
theorem lc_ofInterpreter {p : Program} {l : Launch} {e : Env} {s : State} {m : MethodId} {below : List Frame} {meth : Method} {c : Code} {b L i : Nat} {xs : Nat → Int32} {D : va_G} {g : zG} {ad0 ad1 : Nat → Nat} {Q : State → Prop} (C : lwC p s m c b L i xs D g) {σ τ : zSt} {H : Heap} {locs : List Loc} {ls : Array Slot} (hI : Inv σ τ) (hw : zL2 D g 0 ad0 (fun q => s.heap.size ≤ q) s.heap σ (zW g 1 ad1 τ) H locs) (hl : lv_has ls 4 [(0, .ref b), (1, .ref (ad0 0)), (2, .ref (ad1 0)), (3, .int (nI i))]) (hk : ∀ (σ τ : zSt) (H : Heap) (locs : List Loc), Inv σ τ → zL2 D g 0 ad0 (fun q => s.heap.size ≤ q) s.heap σ (zW g 1 ad1 τ) H locs → W p l e room_1 s m #[.ref b] below meth c H locs 101 14404 Q (F0 m 1616 ls [])) : W p l e room_1 s m #[.ref b] below meth c H locs 101 14404 Q (F0 m 383 ls []) := by
  obtain ⟨hx, hb, hml, hown, hts, hK, hX, hbl, hi, hL⟩ := C
  have hA : ∀ q : Nat, s.heap.size ≤ q → (fun q : Nat => s.heap.size ≤ q) q := fun _ h => h
  have hbA : ¬ (fun q : Nat => s.heap.size ≤ q) b := Nat.not_le.mpr hbl
  have v1 := lw_in (a := 1) hi hL (by decide)
  have v2 := lw_in (a := 2) hi hL (by decide)
  obtain ⟨r, e1, e2⟩ := q_ofInterpreter hI (xs (nI i + nI 1).toNatClampNeg) (xs (nI i + nI 2).toNatClampNeg)
  refine lv_aload_n hx hb dL_law_383 rfl (lv_at hl 1 rfl) ?_
  refine lv_aload_n hx hb dL_law_384 rfl (lv_at hl 0 rfl) ?_
  refine lv_iload_n hx hb dL_law_385 rfl (lv_at hl 3 rfl) ?_
  refine lv_iconst (v := nI 1) hx hb dL_law_386 (by decide) ?_
  refine lv_iadd hx hb dL_law_387 ?_
  refine va_sld hx hb hX hbl hbA hw.2.2.2 v1 dL_law_388 ?_
  refine lv_aload_n hx hb dL_law_389 rfl (lv_at hl 0 rfl) ?_
  refine lv_iload_n hx hb dL_law_390 rfl (lv_at hl 3 rfl) ?_
  refine lv_iconst (v := nI 2) hx hb dL_law_391 (by decide) ?_
  refine lv_iadd hx hb dL_law_392 ?_
  refine va_sld hx hb hX hbl hbA hw.2.2.2 v2 dL_law_393 ?_
  refine z_l2i (b := 0) (As := [.int (xs (nI i + nI 1).toNatClampNeg), .int (xs (nI i + nI 2).toNatClampNeg)]) (rest := []) ⟨hx, hb, hml, hown, hts⟩ hK hw hA (kX10_ofInterpreter l D g ad0 σ (xs (nI i + nI 1).toNatClampNeg) (xs (nI i + nI 2).toNatClampNeg) r e1) (zcwV 2 hts zgoodTbl zw_462 zw_463 zw_464 zw_52 zw_465 rfl rfl hX10_ofInterpreter ⟨Nat.le_of_ble_eq_true rfl, Nat.le_of_ble_eq_true rfl⟩) zO0_0 rfl hl.1 rfl (Nat.le_of_ble_eq_true rfl) dL_law_394 ⟨Nat.le_of_ble_eq_true rfl, Nat.le_of_ble_eq_true rfl⟩ (fun H locs hw => ?_)
  have hw := hw.flip
  refine lv_aload_n hx hb dL_law_397 rfl (lv_at hl 2 rfl) ?_
  refine lv_aload_n hx hb dL_law_398 rfl (lv_at hl 0 rfl) ?_
  refine lv_iload_n hx hb dL_law_399 rfl (lv_at hl 3 rfl) ?_
  refine lv_iconst (v := nI 1) hx hb dL_law_400 (by decide) ?_
  refine lv_iadd hx hb dL_law_401 ?_
  refine va_sld hx hb hX hbl hbA hw.2.2.2 v1 dL_law_402 ?_
  refine lv_aload_n hx hb dL_law_403 rfl (lv_at hl 0 rfl) ?_
  refine lv_iload_n hx hb dL_law_404 rfl (lv_at hl 3 rfl) ?_
  refine lv_iconst (v := nI 2) hx hb dL_law_405 (by decide) ?_
  refine lv_iadd hx hb dL_law_406 ?_
  refine va_sld hx hb hX hbl hbA hw.2.2.2 v2 dL_law_407 ?_
  refine z_l2i (b := 0) (As := [.int (xs (nI i + nI 1).toNatClampNeg), .int (xs (nI i + nI 2).toNatClampNeg)]) (rest := [_]) ⟨hx, hb, hml, hown, hts⟩ hK hw hA (kX11_ofInterpreter l D g ad1 τ (xs (nI i + nI 1).toNatClampNeg) (xs (nI i + nI 2).toNatClampNeg) r e2) (zcwV 2 hts zgoodTbl zw_997 zw_998 zw_999 zw_64 zw_1000 rfl rfl hX11_ofInterpreter ⟨Nat.le_of_ble_eq_true rfl, Nat.le_of_ble_eq_true rfl⟩) zO1_0 rfl hl.1 rfl (Nat.le_of_ble_eq_true rfl) dL_law_408 ⟨Nat.le_of_ble_eq_true rfl, Nat.le_of_ble_eq_true rfl⟩ (fun H locs hw => ?_)
  have hw := hw.flip
  refine lv_icmp_eq (tgt := 1616) hx hb dL_law_411 (by decide) (fun _ => ?_) (fun h => absurd rfl h)
  exact hk _ _ _ _ hI hw
set_option maxHeartbeats 4000000 in
set_option maxRecDepth 100000 in
theorem lc_tire {p : Program} {l : Launch} {e : Env} {s : State} {m : MethodId} {below : List Frame} {meth : Method} {c : Code} {b L i : Nat} {xs : Nat → Int32} {D : va_G} {g : zG} {ad0 ad1 : Nat → Nat} {Q : State → Prop} (C : lwC p s m c b L i xs D g) {σ τ : zSt} {H : Heap} {locs : List Loc} {ls : Array Slot} (hI : Inv σ τ) (hw : zL2 D g 0 ad0 (fun q => s.heap.size ≤ q) s.heap σ (zW g 1 ad1 τ) H locs) (hl : lv_has ls 4 [(0, .ref b), (1, .ref (ad0 0)), (2, .ref (ad1 0)), (3, .int (nI i))]) (hk : ∀ (σ τ : zSt) (H : Heap) (locs : List Loc), Inv σ τ → zL2 D g 0 ad0 (fun q => s.heap.size ≤ q) s.heap σ (zW g 1 ad1 τ) H locs → W p l e room_1 s m #[.ref b] below meth c H locs 101 14404 Q (F0 m 1616 ls [])) : W p l e room_1 s m #[.ref b] below meth c H locs 101 14404 Q (F0 m 416 ls []) := by
  obtain ⟨hx, hb, hml, hown, hts, hK, hX, hbl, hi, hL⟩ := C
  have hA : ∀ q : Nat, s.heap.size ≤ q → (fun q : Nat => s.heap.size ≤ q) q := fun _ h => h
  have hbA : ¬ (fun q : Nat => s.heap.size ≤ q) b := Nat.not_le.mpr hbl
  have v1 := lw_in (a := 1) hi hL (by decide)
  have v2 := lw_in (a := 2) hi hL (by decide)
  obtain ⟨r, σ', τ', e1, e2, hI⟩ := q_tire hI (xs (nI i + nI 1).toNatClampNeg) (xs (nI i + nI 2).toNatClampNeg)
  refine lv_aload_n hx hb dL_law_416 rfl (lv_at hl 1 rfl) ?_
  refine lv_aload_n hx hb dL_law_417 rfl (lv_at hl 0 rfl) ?_
  refine lv_iload_n hx hb dL_law_418 rfl (lv_at hl 3 rfl) ?_
  refine lv_iconst (v := nI 1) hx hb dL_law_419 (by decide) ?_
  refine lv_iadd hx hb dL_law_420 ?_
  refine va_sld hx hb hX hbl hbA hw.2.2.2 v1 dL_law_421 ?_
  refine lv_aload_n hx hb dL_law_422 rfl (lv_at hl 0 rfl) ?_
  refine lv_iload_n hx hb dL_law_423 rfl (lv_at hl 3 rfl) ?_
  refine lv_iconst (v := nI 2) hx hb dL_law_424 (by decide) ?_
  refine lv_iadd hx hb dL_law_425 ?_
  refine va_sld hx hb hX hbl hbA hw.2.2.2 v2 dL_law_426 ?_
  refine z_l2i (b := 0) (As := [.int (xs (nI i + nI 1).toNatClampNeg), .int (xs (nI i + nI 2).toNatClampNeg)]) (rest := []) ⟨hx, hb, hml, hown, hts⟩ hK hw hA (kX10_tire l D g ad0 σ (xs (nI i + nI 1).toNatClampNeg) (xs (nI i + nI 2).toNatClampNeg) (r, σ') e1) (zcwV 2 hts zgoodTbl zw_470 zw_471 zw_472 zw_52 zw_473 rfl rfl hX10_tire ⟨Nat.le_of_ble_eq_true rfl, Nat.le_of_ble_eq_true rfl⟩) zO0_0 rfl hl.1 rfl (Nat.le_of_ble_eq_true rfl) dL_law_427 ⟨Nat.le_of_ble_eq_true rfl, Nat.le_of_ble_eq_true rfl⟩ (fun H locs hw => ?_)
  have hw := hw.flip
  refine lv_aload_n hx hb dL_law_430 rfl (lv_at hl 2 rfl) ?_
  refine lv_aload_n hx hb dL_law_431 rfl (lv_at hl 0 rfl) ?_
  refine lv_iload_n hx hb dL_law_432 rfl (lv_at hl 3 rfl) ?_
  refine lv_iconst (v := nI 1) hx hb dL_law_433 (by decide) ?_
  refine lv_iadd hx hb dL_law_434 ?_
  refine va_sld hx hb hX hbl hbA hw.2.2.2 v1 dL_law_435 ?_
  refine lv_aload_n hx hb dL_law_436 rfl (lv_at hl 0 rfl) ?_
  refine lv_iload_n hx hb dL_law_437 rfl (lv_at hl 3 rfl) ?_
  refine lv_iconst (v := nI 2) hx hb dL_law_438 (by decide) ?_
  refine lv_iadd hx hb dL_law_439 ?_
  refine va_sld hx hb hX hbl hbA hw.2.2.2 v2 dL_law_440 ?_
  refine z_l2i (b := 0) (As := [.int (xs (nI i + nI 1).toNatClampNeg), .int (xs (nI i + nI 2).toNatClampNeg)]) (rest := [_]) ⟨hx, hb, hml, hown, hts⟩ hK hw hA (kX11_tire l D g ad1 τ (xs (nI i + nI 1).toNatClampNeg) (xs (nI i + nI 2).toNatClampNeg) (r, τ') e2) (zcwV 2 hts zgoodTbl zw_1005 zw_1006 zw_1007 zw_64 zw_1008 rfl rfl hX11_tire ⟨Nat.le_of_ble_eq_true rfl, Nat.le_of_ble_eq_true rfl⟩) zO1_0 rfl hl.1 rfl (Nat.le_of_ble_eq_true rfl) dL_law_441 ⟨Nat.le_of_ble_eq_true rfl, Nat.le_of_ble_eq_true rfl⟩ (fun H locs hw => ?_)
  have hw := hw.flip
  refine lv_icmp_eq (tgt := 1616) hx hb dL_law_444 (by decide) (fun _ => ?_) (fun h => absurd rfl h)
  exact hk _ _ _ _ hI hw
set_option maxHeartbeats 4000000 in
set_option maxRecDepth 100000 in
theorem lc_carries {p : Program} {l : Launch} {e : Env} {s : State} {m : MethodId} {below : List Frame} {meth : Method} {c : Code} {b L i : Nat} {xs : Nat → Int32} {D : va_G} {g : zG} {ad0 ad1 : Nat → Nat} {Q : State → Prop} (C : lwC p s m c b L i xs D g) {σ τ : zSt} {H : Heap} {locs : List Loc} {ls : Array Slot} (hI : Inv σ τ) (hw : zL2 D g 0 ad0 (fun q => s.heap.size ≤ q) s.heap σ (zW g 1 ad1 τ) H locs) (hl : lv_has ls 4 [(0, .ref b), (1, .ref (ad0 0)), (2, .ref (ad1 0)), (3, .int (nI i))]) (hk : ∀ (σ τ : zSt) (H : Heap) (locs : List Loc), Inv σ τ → zL2 D g 0 ad0 (fun q => s.heap.size ≤ q) s.heap σ (zW g 1 ad1 τ) H locs → W p l e room_1 s m #[.ref b] below meth c H locs 101 14404 Q (F0 m 1616 ls [])) : W p l e room_1 s m #[.ref b] below meth c H locs 101 14404 Q (F0 m 449 ls []) := by
  obtain ⟨hx, hb, hml, hown, hts, hK, hX, hbl, hi, hL⟩ := C
  have hA : ∀ q : Nat, s.heap.size ≤ q → (fun q : Nat => s.heap.size ≤ q) q := fun _ h => h
  have hbA : ¬ (fun q : Nat => s.heap.size ≤ q) b := Nat.not_le.mpr hbl
  have v1 := lw_in (a := 1) hi hL (by decide)
  have v2 := lw_in (a := 2) hi hL (by decide)
  have v3 := lw_in (a := 3) hi hL (by decide)
  have v4 := lw_in (a := 4) hi hL (by decide)
  obtain ⟨r, σ', e1, e2, hI⟩ := q_carries hI (xs (nI i + nI 1).toNatClampNeg) (xs (nI i + nI 2).toNatClampNeg) (xs (nI i + nI 3).toNatClampNeg) (xs (nI i + nI 4).toNatClampNeg)
  refine lv_aload_n hx hb dL_law_449 rfl (lv_at hl 1 rfl) ?_
  refine lv_aload_n hx hb dL_law_450 rfl (lv_at hl 0 rfl) ?_
  refine lv_iload_n hx hb dL_law_451 rfl (lv_at hl 3 rfl) ?_
  refine lv_iconst (v := nI 1) hx hb dL_law_452 (by decide) ?_
  refine lv_iadd hx hb dL_law_453 ?_
  refine va_sld hx hb hX hbl hbA hw.2.2.2 v1 dL_law_454 ?_
  refine lv_aload_n hx hb dL_law_455 rfl (lv_at hl 0 rfl) ?_
  refine lv_iload_n hx hb dL_law_456 rfl (lv_at hl 3 rfl) ?_
  refine lv_iconst (v := nI 2) hx hb dL_law_457 (by decide) ?_
  refine lv_iadd hx hb dL_law_458 ?_
  refine va_sld hx hb hX hbl hbA hw.2.2.2 v2 dL_law_459 ?_
  refine lv_aload_n hx hb dL_law_460 rfl (lv_at hl 0 rfl) ?_
  refine lv_iload_n hx hb dL_law_461 rfl (lv_at hl 3 rfl) ?_
  refine lv_iconst (v := nI 3) hx hb dL_law_462 (by decide) ?_
  refine lv_iadd hx hb dL_law_463 ?_
  refine va_sld hx hb hX hbl hbA hw.2.2.2 v3 dL_law_464 ?_
  refine lv_aload_n hx hb dL_law_465 rfl (lv_at hl 0 rfl) ?_
  refine lv_iload_n hx hb dL_law_466 rfl (lv_at hl 3 rfl) ?_
  refine lv_iconst (v := nI 4) hx hb dL_law_467 (by decide) ?_
  refine lv_iadd hx hb dL_law_468 ?_
  refine va_sld hx hb hX hbl hbA hw.2.2.2 v4 dL_law_469 ?_
  refine z_l2i (b := 0) (As := [.int (xs (nI i + nI 1).toNatClampNeg), .int (xs (nI i + nI 2).toNatClampNeg), .int (xs (nI i + nI 3).toNatClampNeg), .int (xs (nI i + nI 4).toNatClampNeg)]) (rest := []) ⟨hx, hb, hml, hown, hts⟩ hK hw hA (kX10_carries l D g ad0 σ (xs (nI i + nI 1).toNatClampNeg) (xs (nI i + nI 2).toNatClampNeg) (xs (nI i + nI 3).toNatClampNeg) (xs (nI i + nI 4).toNatClampNeg) (r, σ') e1) (zcwV 4 hts zgoodTbl zw_474 zw_475 zw_476 zw_52 zw_477 rfl rfl hX10_carries ⟨Nat.le_of_ble_eq_true rfl, Nat.le_of_ble_eq_true rfl⟩) zO0_0 rfl hl.1 rfl (Nat.le_of_ble_eq_true rfl) dL_law_470 ⟨Nat.le_of_ble_eq_true rfl, Nat.le_of_ble_eq_true rfl⟩ (fun H locs hw => ?_)
  have hw := hw.flip
  refine lv_aload_n hx hb dL_law_473 rfl (lv_at hl 2 rfl) ?_
  refine lv_aload_n hx hb dL_law_474 rfl (lv_at hl 0 rfl) ?_
  refine lv_iload_n hx hb dL_law_475 rfl (lv_at hl 3 rfl) ?_
  refine lv_iconst (v := nI 1) hx hb dL_law_476 (by decide) ?_
  refine lv_iadd hx hb dL_law_477 ?_
  refine va_sld hx hb hX hbl hbA hw.2.2.2 v1 dL_law_478 ?_
  refine lv_aload_n hx hb dL_law_479 rfl (lv_at hl 0 rfl) ?_
  refine lv_iload_n hx hb dL_law_480 rfl (lv_at hl 3 rfl) ?_
  refine lv_iconst (v := nI 2) hx hb dL_law_481 (by decide) ?_
  refine lv_iadd hx hb dL_law_482 ?_
  refine va_sld hx hb hX hbl hbA hw.2.2.2 v2 dL_law_483 ?_
  refine lv_aload_n hx hb dL_law_484 rfl (lv_at hl 0 rfl) ?_
  refine lv_iload_n hx hb dL_law_485 rfl (lv_at hl 3 rfl) ?_
  refine lv_iconst (v := nI 3) hx hb dL_law_486 (by decide) ?_
  refine lv_iadd hx hb dL_law_487 ?_
  refine va_sld hx hb hX hbl hbA hw.2.2.2 v3 dL_law_488 ?_
  refine lv_aload_n hx hb dL_law_489 rfl (lv_at hl 0 rfl) ?_
  refine lv_iload_n hx hb dL_law_490 rfl (lv_at hl 3 rfl) ?_
  refine lv_iconst (v := nI 4) hx hb dL_law_491 (by decide) ?_
  refine lv_iadd hx hb dL_law_492 ?_
  refine va_sld hx hb hX hbl hbA hw.2.2.2 v4 dL_law_493 ?_
  refine z_l2i (b := 0) (As := [.int (xs (nI i + nI 1).toNatClampNeg), .int (xs (nI i + nI 2).toNatClampNeg), .int (xs (nI i + nI 3).toNatClampNeg), .int (xs (nI i + nI 4).toNatClampNeg)]) (rest := [_]) ⟨hx, hb, hml, hown, hts⟩ hK hw hA (kX11_carries l D g ad1 τ (xs (nI i + nI 1).toNatClampNeg) (xs (nI i + nI 2).toNatClampNeg) (xs (nI i + nI 3).toNatClampNeg) (xs (nI i + nI 4).toNatClampNeg) r e2) (zcwV 4 hts zgoodTbl zw_1009 zw_1010 zw_1011 zw_64 zw_1012 rfl rfl hX11_carries ⟨Nat.le_of_ble_eq_true rfl, Nat.le_of_ble_eq_true rfl⟩) zO1_0 rfl hl.1 rfl (Nat.le_of_ble_eq_true rfl) dL_law_494 ⟨Nat.le_of_ble_eq_true rfl, Nat.le_of_ble_eq_true rfl⟩ (fun H locs hw => ?_)
  have hw := hw.flip
  refine lv_icmp_eq (tgt := 1616) hx hb dL_law_497 (by decide) (fun _ => ?_) (fun h => absurd rfl h)
  exact hk _ _ _ _ hI hw
set_option maxHeartbeats 4000000 in
set_option maxRecDepth 100000 in
theorem lc_returns {p : Program} {l : Launch} {e : Env} {s : State} {m : MethodId} {below : List Frame} {meth : Method} {c : Code} {b L i : Nat} {xs : Nat → Int32} {D : va_G} {g : zG} {ad0 ad1 : Nat → Nat} {Q : State → Prop} (C : lwC p s m c b L i xs D g) {σ τ : zSt} {H : Heap} {locs : List Loc} {ls : Array Slot} (hI : Inv σ τ) (hw : zL2 D g 0 ad0 (fun q => s.heap.size ≤ q) s.heap σ (zW g 1 ad1 τ) H locs) (hl : lv_has ls 4 [(0, .ref b), (1, .ref (ad0 0)), (2, .ref (ad1 0)), (3, .int (nI i))]) (hk : ∀ (σ τ : zSt) (H : Heap) (locs : List Loc), Inv σ τ → zL2 D g 0 ad0 (fun q => s.heap.size ≤ q) s.heap σ (zW g 1 ad1 τ) H locs → W p l e room_1 s m #[.ref b] below meth c H locs 101 14404 Q (F0 m 1616 ls [])) : W p l e room_1 s m #[.ref b] below meth c H locs 101 14404 Q (F0 m 502 ls []) := by
  obtain ⟨hx, hb, hml, hown, hts, hK, hX, hbl, hi, hL⟩ := C
  have hA : ∀ q : Nat, s.heap.size ≤ q → (fun q : Nat => s.heap.size ≤ q) q := fun _ h => h
  have hbA : ¬ (fun q : Nat => s.heap.size ≤ q) b := Nat.not_le.mpr hbl
  have v1 := lw_in (a := 1) hi hL (by decide)
  have v2 := lw_in (a := 2) hi hL (by decide)
  have v3 := lw_in (a := 3) hi hL (by decide)
  obtain ⟨r, σ', e1, e2, hI⟩ := q_returns hI (xs (nI i + nI 1).toNatClampNeg) (xs (nI i + nI 2).toNatClampNeg) (xs (nI i + nI 3).toNatClampNeg)
  refine lv_aload_n hx hb dL_law_502 rfl (lv_at hl 1 rfl) ?_
  refine lv_aload_n hx hb dL_law_503 rfl (lv_at hl 0 rfl) ?_
  refine lv_iload_n hx hb dL_law_504 rfl (lv_at hl 3 rfl) ?_
  refine lv_iconst (v := nI 1) hx hb dL_law_505 (by decide) ?_
  refine lv_iadd hx hb dL_law_506 ?_
  refine va_sld hx hb hX hbl hbA hw.2.2.2 v1 dL_law_507 ?_
  refine lv_aload_n hx hb dL_law_508 rfl (lv_at hl 0 rfl) ?_
  refine lv_iload_n hx hb dL_law_509 rfl (lv_at hl 3 rfl) ?_
  refine lv_iconst (v := nI 2) hx hb dL_law_510 (by decide) ?_
  refine lv_iadd hx hb dL_law_511 ?_
  refine va_sld hx hb hX hbl hbA hw.2.2.2 v2 dL_law_512 ?_
  refine lv_aload_n hx hb dL_law_513 rfl (lv_at hl 0 rfl) ?_
  refine lv_iload_n hx hb dL_law_514 rfl (lv_at hl 3 rfl) ?_
  refine lv_iconst (v := nI 3) hx hb dL_law_515 (by decide) ?_
  refine lv_iadd hx hb dL_law_516 ?_
  refine va_sld hx hb hX hbl hbA hw.2.2.2 v3 dL_law_517 ?_
  refine z_l2i (b := 0) (As := [.int (xs (nI i + nI 1).toNatClampNeg), .int (xs (nI i + nI 2).toNatClampNeg), .int (xs (nI i + nI 3).toNatClampNeg)]) (rest := []) ⟨hx, hb, hml, hown, hts⟩ hK hw hA (kX10_returns l D g ad0 σ (xs (nI i + nI 1).toNatClampNeg) (xs (nI i + nI 2).toNatClampNeg) (xs (nI i + nI 3).toNatClampNeg) (r, σ') e1) (zcwV 3 hts zgoodTbl zw_498 zw_499 zw_500 zw_52 zw_501 rfl rfl hX10_returns ⟨Nat.le_of_ble_eq_true rfl, Nat.le_of_ble_eq_true rfl⟩) zO0_0 rfl hl.1 rfl (Nat.le_of_ble_eq_true rfl) dL_law_518 ⟨Nat.le_of_ble_eq_true rfl, Nat.le_of_ble_eq_true rfl⟩ (fun H locs hw => ?_)
  have hw := hw.flip
  refine lv_aload_n hx hb dL_law_521 rfl (lv_at hl 2 rfl) ?_
  refine lv_aload_n hx hb dL_law_522 rfl (lv_at hl 0 rfl) ?_
  refine lv_iload_n hx hb dL_law_523 rfl (lv_at hl 3 rfl) ?_
  refine lv_iconst (v := nI 1) hx hb dL_law_524 (by decide) ?_
  refine lv_iadd hx hb dL_law_525 ?_
  refine va_sld hx hb hX hbl hbA hw.2.2.2 v1 dL_law_526 ?_
  refine lv_aload_n hx hb dL_law_527 rfl (lv_at hl 0 rfl) ?_
  refine lv_iload_n hx hb dL_law_528 rfl (lv_at hl 3 rfl) ?_
  refine lv_iconst (v := nI 2) hx hb dL_law_529 (by decide) ?_
  refine lv_iadd hx hb dL_law_530 ?_
  refine va_sld hx hb hX hbl hbA hw.2.2.2 v2 dL_law_531 ?_
  refine lv_aload_n hx hb dL_law_532 rfl (lv_at hl 0 rfl) ?_
  refine lv_iload_n hx hb dL_law_533 rfl (lv_at hl 3 rfl) ?_
  refine lv_iconst (v := nI 3) hx hb dL_law_534 (by decide) ?_
  refine lv_iadd hx hb dL_law_535 ?_
  refine va_sld hx hb hX hbl hbA hw.2.2.2 v3 dL_law_536 ?_
  refine z_l2i (b := 0) (As := [.int (xs (nI i + nI 1).toNatClampNeg), .int (xs (nI i + nI 2).toNatClampNeg), .int (xs (nI i + nI 3).toNatClampNeg)]) (rest := [_]) ⟨hx, hb, hml, hown, hts⟩ hK hw hA (kX11_returns l D g ad1 τ (xs (nI i + nI 1).toNatClampNeg) (xs (nI i + nI 2).toNatClampNeg) (xs (nI i + nI 3).toNatClampNeg) r e2) (zcwV 3 hts zgoodTbl zw_1021 zw_1022 zw_1023 zw_64 zw_1024 rfl rfl hX11_returns ⟨Nat.le_of_ble_eq_true rfl, Nat.le_of_ble_eq_true rfl⟩) zO1_0 rfl hl.1 rfl (Nat.le_of_ble_eq_true rfl) dL_law_537 ⟨Nat.le_of_ble_eq_true rfl, Nat.le_of_ble_eq_true rfl⟩ (fun H locs hw => ?_)
  have hw := hw.flip
  refine lv_icmp_eq (tgt := 1616) hx hb dL_law_540 (by decide) (fun _ => ?_) (fun h => absurd rfl h)
  exact hk _ _ _ _ hI hw
set_option maxHeartbeats 4000000 in
set_option maxRecDepth 100000 in
theorem lc_hands {p : Program} {l : Launch} {e : Env} {s : State} {m : MethodId} {below : List Frame} {meth : Method} {c : Code} {b L i : Nat} {xs : Nat → Int32} {D : va_G} {g : zG} {ad0 ad1 : Nat → Nat} {Q : State → Prop} (C : lwC p s m c b L i xs D g) {σ τ : zSt} {H : Heap} {locs : List Loc} {ls : Array Slot} (hI : Inv σ τ) (hw : zL2 D g 0 ad0 (fun q => s.heap.size ≤ q) s.heap σ (zW g 1 ad1 τ) H locs) (hl : lv_has ls 4 [(0, .ref b), (1, .ref (ad0 0)), (2, .ref (ad1 0)), (3, .int (nI i))]) (hk : ∀ (σ τ : zSt) (H : Heap) (locs : List Loc), Inv σ τ → zL2 D g 0 ad0 (fun q => s.heap.size ≤ q) s.heap σ (zW g 1 ad1 τ) H locs → W p l e room_1 s m #[.ref b] below meth c H locs 101 14404 Q (F0 m 1616 ls [])) : W p l e room_1 s m #[.ref b] below meth c H locs 101 14404 Q (F0 m 545 ls []) := by
  obtain ⟨hx, hb, hml, hown, hts, hK, hX, hbl, hi, hL⟩ := C
  have hA : ∀ q : Nat, s.heap.size ≤ q → (fun q : Nat => s.heap.size ≤ q) q := fun _ h => h
  have hbA : ¬ (fun q : Nat => s.heap.size ≤ q) b := Nat.not_le.mpr hbl
  have v1 := lw_in (a := 1) hi hL (by decide)
  have v2 := lw_in (a := 2) hi hL (by decide)
  have v3 := lw_in (a := 3) hi hL (by decide)
  have v4 := lw_in (a := 4) hi hL (by decide)
  have v5 := lw_in (a := 5) hi hL (by decide)
  have v6 := lw_in (a := 6) hi hL (by decide)
  have v7 := lw_in (a := 7) hi hL (by decide)
  have v8 := lw_in (a := 8) hi hL (by decide)
  obtain ⟨r, σ', τ', e1, e2, hI⟩ := q_hands hI (xs (nI i + nI 1).toNatClampNeg) (xs (nI i + nI 2).toNatClampNeg) (xs (nI i + nI 3).toNatClampNeg) (xs (nI i + nI 4).toNatClampNeg) (xs (nI i + nI 5).toNatClampNeg) (xs (nI i + nI 6).toNatClampNeg) (xs (nI i + nI 7).toNatClampNeg) (xs (nI i + nI 8).toNatClampNeg)
  refine lv_aload_n hx hb dL_law_545 rfl (lv_at hl 1 rfl) ?_
  refine lv_aload_n hx hb dL_law_546 rfl (lv_at hl 0 rfl) ?_
  refine lv_iload_n hx hb dL_law_547 rfl (lv_at hl 3 rfl) ?_
  refine lv_iconst (v := nI 1) hx hb dL_law_548 (by decide) ?_
  refine lv_iadd hx hb dL_law_549 ?_
  refine va_sld hx hb hX hbl hbA hw.2.2.2 v1 dL_law_550 ?_
  refine lv_aload_n hx hb dL_law_551 rfl (lv_at hl 0 rfl) ?_
  refine lv_iload_n hx hb dL_law_552 rfl (lv_at hl 3 rfl) ?_
  refine lv_iconst (v := nI 2) hx hb dL_law_553 (by decide) ?_
  refine lv_iadd hx hb dL_law_554 ?_
  refine va_sld hx hb hX hbl hbA hw.2.2.2 v2 dL_law_555 ?_
  refine lv_aload_n hx hb dL_law_556 rfl (lv_at hl 0 rfl) ?_
  refine lv_iload_n hx hb dL_law_557 rfl (lv_at hl 3 rfl) ?_
  refine lv_iconst (v := nI 3) hx hb dL_law_558 (by decide) ?_
  refine lv_iadd hx hb dL_law_559 ?_
  refine va_sld hx hb hX hbl hbA hw.2.2.2 v3 dL_law_560 ?_
  refine lv_aload_n hx hb dL_law_561 rfl (lv_at hl 0 rfl) ?_
  refine lv_iload_n hx hb dL_law_562 rfl (lv_at hl 3 rfl) ?_
  refine lv_iconst (v := nI 4) hx hb dL_law_563 (by decide) ?_
  refine lv_iadd hx hb dL_law_564 ?_
  refine va_sld hx hb hX hbl hbA hw.2.2.2 v4 dL_law_565 ?_
  refine lv_aload_n hx hb dL_law_566 rfl (lv_at hl 0 rfl) ?_
  refine lv_iload_n hx hb dL_law_567 rfl (lv_at hl 3 rfl) ?_
  refine lv_iconst (v := nI 5) hx hb dL_law_568 (by decide) ?_
  refine lv_iadd hx hb dL_law_569 ?_
  refine va_sld hx hb hX hbl hbA hw.2.2.2 v5 dL_law_570 ?_
  refine lv_aload_n hx hb dL_law_571 rfl (lv_at hl 0 rfl) ?_
  refine lv_iload_n hx hb dL_law_572 rfl (lv_at hl 3 rfl) ?_
  refine lv_bipush (v := nI 6) hx hb dL_law_573 (by decide) ?_
  refine lv_iadd hx hb dL_law_575 ?_
  refine va_sld hx hb hX hbl hbA hw.2.2.2 v6 dL_law_576 ?_
  refine lv_aload_n hx hb dL_law_577 rfl (lv_at hl 0 rfl) ?_
  refine lv_iload_n hx hb dL_law_578 rfl (lv_at hl 3 rfl) ?_
  refine lv_bipush (v := nI 7) hx hb dL_law_579 (by decide) ?_
  refine lv_iadd hx hb dL_law_581 ?_
  refine va_sld hx hb hX hbl hbA hw.2.2.2 v7 dL_law_582 ?_
  refine lv_aload_n hx hb dL_law_583 rfl (lv_at hl 0 rfl) ?_
  refine lv_iload_n hx hb dL_law_584 rfl (lv_at hl 3 rfl) ?_
  refine lv_bipush (v := nI 8) hx hb dL_law_585 (by decide) ?_
  refine lv_iadd hx hb dL_law_587 ?_
  refine va_sld hx hb hX hbl hbA hw.2.2.2 v8 dL_law_588 ?_
  refine z_l2l (b := 0) (As := [.int (xs (nI i + nI 1).toNatClampNeg), .int (xs (nI i + nI 2).toNatClampNeg), .int (xs (nI i + nI 3).toNatClampNeg), .int (xs (nI i + nI 4).toNatClampNeg), .int (xs (nI i + nI 5).toNatClampNeg), .int (xs (nI i + nI 6).toNatClampNeg), .int (xs (nI i + nI 7).toNatClampNeg), .int (xs (nI i + nI 8).toNatClampNeg)]) (rest := []) ⟨hx, hb, hml, hown, hts⟩ hK hw hA (kX10_hands l D g ad0 σ (xs (nI i + nI 1).toNatClampNeg) (xs (nI i + nI 2).toNatClampNeg) (xs (nI i + nI 3).toNatClampNeg) (xs (nI i + nI 4).toNatClampNeg) (xs (nI i + nI 5).toNatClampNeg) (xs (nI i + nI 6).toNatClampNeg) (xs (nI i + nI 7).toNatClampNeg) (xs (nI i + nI 8).toNatClampNeg) (r, σ') e1) (zcwV 8 hts zgoodTbl zw_509 zw_510 zw_511 zw_52 zw_512 rfl rfl hX10_hands ⟨Nat.le_of_ble_eq_true rfl, Nat.le_of_ble_eq_true rfl⟩) zO0_0 rfl hl.1 rfl (Nat.le_of_ble_eq_true rfl) dL_law_589 ⟨Nat.le_of_ble_eq_true rfl, Nat.le_of_ble_eq_true rfl⟩ (fun H locs hw => ?_)
  have hw := hw.flip
  refine lv_aload_n hx hb dL_law_592 rfl (lv_at hl 2 rfl) ?_
  refine lv_aload_n hx hb dL_law_593 rfl (lv_at hl 0 rfl) ?_
  refine lv_iload_n hx hb dL_law_594 rfl (lv_at hl 3 rfl) ?_
  refine lv_iconst (v := nI 1) hx hb dL_law_595 (by decide) ?_
  refine lv_iadd hx hb dL_law_596 ?_
  refine va_sld hx hb hX hbl hbA hw.2.2.2 v1 dL_law_597 ?_
  refine lv_aload_n hx hb dL_law_598 rfl (lv_at hl 0 rfl) ?_
  refine lv_iload_n hx hb dL_law_599 rfl (lv_at hl 3 rfl) ?_
  refine lv_iconst (v := nI 2) hx hb dL_law_600 (by decide) ?_
  refine lv_iadd hx hb dL_law_601 ?_
  refine va_sld hx hb hX hbl hbA hw.2.2.2 v2 dL_law_602 ?_
  refine lv_aload_n hx hb dL_law_603 rfl (lv_at hl 0 rfl) ?_
  refine lv_iload_n hx hb dL_law_604 rfl (lv_at hl 3 rfl) ?_
  refine lv_iconst (v := nI 3) hx hb dL_law_605 (by decide) ?_
  refine lv_iadd hx hb dL_law_606 ?_
  refine va_sld hx hb hX hbl hbA hw.2.2.2 v3 dL_law_607 ?_
  refine lv_aload_n hx hb dL_law_608 rfl (lv_at hl 0 rfl) ?_
  refine lv_iload_n hx hb dL_law_609 rfl (lv_at hl 3 rfl) ?_
  refine lv_iconst (v := nI 4) hx hb dL_law_610 (by decide) ?_
  refine lv_iadd hx hb dL_law_611 ?_
  refine va_sld hx hb hX hbl hbA hw.2.2.2 v4 dL_law_612 ?_
  refine lv_aload_n hx hb dL_law_613 rfl (lv_at hl 0 rfl) ?_
  refine lv_iload_n hx hb dL_law_614 rfl (lv_at hl 3 rfl) ?_
  refine lv_iconst (v := nI 5) hx hb dL_law_615 (by decide) ?_
  refine lv_iadd hx hb dL_law_616 ?_
  refine va_sld hx hb hX hbl hbA hw.2.2.2 v5 dL_law_617 ?_
  refine lv_aload_n hx hb dL_law_618 rfl (lv_at hl 0 rfl) ?_
  refine lv_iload_n hx hb dL_law_619 rfl (lv_at hl 3 rfl) ?_
  refine lv_bipush (v := nI 6) hx hb dL_law_620 (by decide) ?_
  refine lv_iadd hx hb dL_law_622 ?_
  refine va_sld hx hb hX hbl hbA hw.2.2.2 v6 dL_law_623 ?_
  refine lv_aload_n hx hb dL_law_624 rfl (lv_at hl 0 rfl) ?_
  refine lv_iload_n hx hb dL_law_625 rfl (lv_at hl 3 rfl) ?_
  refine lv_bipush (v := nI 7) hx hb dL_law_626 (by decide) ?_
  refine lv_iadd hx hb dL_law_628 ?_
  refine va_sld hx hb hX hbl hbA hw.2.2.2 v7 dL_law_629 ?_
  refine lv_aload_n hx hb dL_law_630 rfl (lv_at hl 0 rfl) ?_
  refine lv_iload_n hx hb dL_law_631 rfl (lv_at hl 3 rfl) ?_
  refine lv_bipush (v := nI 8) hx hb dL_law_632 (by decide) ?_
  refine lv_iadd hx hb dL_law_634 ?_
  refine va_sld hx hb hX hbl hbA hw.2.2.2 v8 dL_law_635 ?_
  refine z_l2l (b := 0) (As := [.int (xs (nI i + nI 1).toNatClampNeg), .int (xs (nI i + nI 2).toNatClampNeg), .int (xs (nI i + nI 3).toNatClampNeg), .int (xs (nI i + nI 4).toNatClampNeg), .int (xs (nI i + nI 5).toNatClampNeg), .int (xs (nI i + nI 6).toNatClampNeg), .int (xs (nI i + nI 7).toNatClampNeg), .int (xs (nI i + nI 8).toNatClampNeg)]) (rest := [_]) ⟨hx, hb, hml, hown, hts⟩ hK hw hA (kX11_hands l D g ad1 τ (xs (nI i + nI 1).toNatClampNeg) (xs (nI i + nI 2).toNatClampNeg) (xs (nI i + nI 3).toNatClampNeg) (xs (nI i + nI 4).toNatClampNeg) (xs (nI i + nI 5).toNatClampNeg) (xs (nI i + nI 6).toNatClampNeg) (xs (nI i + nI 7).toNatClampNeg) (xs (nI i + nI 8).toNatClampNeg) (r, τ') e2) (zcwV 8 hts zgoodTbl zw_1025 zw_1026 zw_1027 zw_64 zw_1028 rfl rfl hX11_hands ⟨Nat.le_of_ble_eq_true rfl, Nat.le_of_ble_eq_true rfl⟩) zO1_0 rfl hl.1 rfl (Nat.le_of_ble_eq_true rfl) dL_law_636 ⟨Nat.le_of_ble_eq_true rfl, Nat.le_of_ble_eq_true rfl⟩ (fun H locs hw => ?_)
  have hw := hw.flip
  refine z_lceq (tgt := 1616) hx hb dL_law_639 dL_law_640 (by decide) (fun _ => ?_) (fun h => absurd rfl h)
  exact hk _ _ _ _ hI hw
set_option maxHeartbeats 4000000 in
set_option maxRecDepth 100000 in
theorem lc_witness {p : Program} {l : Launch} {e : Env} {s : State} {m : MethodId} {below : List Frame} {meth : Method} {c : Code} {b L i : Nat} {xs : Nat → Int32} {D : va_G} {g : zG} {ad0 ad1 : Nat → Nat} {Q : State → Prop} (C : lwC p s m c b L i xs D g) {σ τ : zSt} {H : Heap} {locs : List Loc} {ls : Array Slot} (hI : Inv σ τ) (hw : zL2 D g 0 ad0 (fun q => s.heap.size ≤ q) s.heap σ (zW g 1 ad1 τ) H locs) (hl : lv_has ls 4 [(0, .ref b), (1, .ref (ad0 0)), (2, .ref (ad1 0)), (3, .int (nI i))]) (hk : ∀ (σ τ : zSt) (H : Heap) (locs : List Loc), Inv σ τ → zL2 D g 0 ad0 (fun q => s.heap.size ≤ q) s.heap σ (zW g 1 ad1 τ) H locs → W p l e room_1 s m #[.ref b] below meth c H locs 101 14404 Q (F0 m 1616 ls [])) : W p l e room_1 s m #[.ref b] below meth c H locs 101 14404 Q (F0 m 645 ls []) := by
  obtain ⟨hx, hb, hml, hown, hts, hK, hX, hbl, hi, hL⟩ := C
  have hA : ∀ q : Nat, s.heap.size ≤ q → (fun q : Nat => s.heap.size ≤ q) q := fun _ h => h
  have hbA : ¬ (fun q : Nat => s.heap.size ≤ q) b := Nat.not_le.mpr hbl
  have v1 := lw_in (a := 1) hi hL (by decide)
  have v2 := lw_in (a := 2) hi hL (by decide)
  have v3 := lw_in (a := 3) hi hL (by decide)
  have v4 := lw_in (a := 4) hi hL (by decide)
  obtain ⟨r, σ', τ', e1, e2, hI⟩ := q_witness hI (xs (nI i + nI 1).toNatClampNeg) (xs (nI i + nI 2).toNatClampNeg) (xs (nI i + nI 3).toNatClampNeg) (xs (nI i + nI 4).toNatClampNeg)
  refine lv_aload_n hx hb dL_law_645 rfl (lv_at hl 1 rfl) ?_
  refine lv_aload_n hx hb dL_law_646 rfl (lv_at hl 0 rfl) ?_
  refine lv_iload_n hx hb dL_law_647 rfl (lv_at hl 3 rfl) ?_
  refine lv_iconst (v := nI 1) hx hb dL_law_648 (by decide) ?_
  refine lv_iadd hx hb dL_law_649 ?_
  refine va_sld hx hb hX hbl hbA hw.2.2.2 v1 dL_law_650 ?_
  refine lv_aload_n hx hb dL_law_651 rfl (lv_at hl 0 rfl) ?_
  refine lv_iload_n hx hb dL_law_652 rfl (lv_at hl 3 rfl) ?_
  refine lv_iconst (v := nI 2) hx hb dL_law_653 (by decide) ?_
  refine lv_iadd hx hb dL_law_654 ?_
  refine va_sld hx hb hX hbl hbA hw.2.2.2 v2 dL_law_655 ?_
  refine lv_aload_n hx hb dL_law_656 rfl (lv_at hl 0 rfl) ?_
  refine lv_iload_n hx hb dL_law_657 rfl (lv_at hl 3 rfl) ?_
  refine lv_iconst (v := nI 3) hx hb dL_law_658 (by decide) ?_
  refine lv_iadd hx hb dL_law_659 ?_
  refine va_sld hx hb hX hbl hbA hw.2.2.2 v3 dL_law_660 ?_
  refine lv_aload_n hx hb dL_law_661 rfl (lv_at hl 0 rfl) ?_
  refine lv_iload_n hx hb dL_law_662 rfl (lv_at hl 3 rfl) ?_
  refine lv_iconst (v := nI 4) hx hb dL_law_663 (by decide) ?_
  refine lv_iadd hx hb dL_law_664 ?_
  refine va_sld hx hb hX hbl hbA hw.2.2.2 v4 dL_law_665 ?_
  refine z_l2i (b := 0) (As := [.int (xs (nI i + nI 1).toNatClampNeg), .int (xs (nI i + nI 2).toNatClampNeg), .int (xs (nI i + nI 3).toNatClampNeg), .int (xs (nI i + nI 4).toNatClampNeg)]) (rest := []) ⟨hx, hb, hml, hown, hts⟩ hK hw hA (kX10_witness l D g ad0 σ (xs (nI i + nI 1).toNatClampNeg) (xs (nI i + nI 2).toNatClampNeg) (xs (nI i + nI 3).toNatClampNeg) (xs (nI i + nI 4).toNatClampNeg) (r, σ') e1) (zcwV 4 hts zgoodTbl zw_528 zw_529 zw_530 zw_52 zw_531 rfl rfl hX10_witness ⟨Nat.le_of_ble_eq_true rfl, Nat.le_of_ble_eq_true rfl⟩) zO0_0 rfl hl.1 rfl (Nat.le_of_ble_eq_true rfl) dL_law_666 ⟨Nat.le_of_ble_eq_true rfl, Nat.le_of_ble_eq_true rfl⟩ (fun H locs hw => ?_)
  have hw := hw.flip
  refine lv_aload_n hx hb dL_law_669 rfl (lv_at hl 2 rfl) ?_
  refine lv_aload_n hx hb dL_law_670 rfl (lv_at hl 0 rfl) ?_
  refine lv_iload_n hx hb dL_law_671 rfl (lv_at hl 3 rfl) ?_
  refine lv_iconst (v := nI 1) hx hb dL_law_672 (by decide) ?_
  refine lv_iadd hx hb dL_law_673 ?_
  refine va_sld hx hb hX hbl hbA hw.2.2.2 v1 dL_law_674 ?_
  refine lv_aload_n hx hb dL_law_675 rfl (lv_at hl 0 rfl) ?_
  refine lv_iload_n hx hb dL_law_676 rfl (lv_at hl 3 rfl) ?_
  refine lv_iconst (v := nI 2) hx hb dL_law_677 (by decide) ?_
  refine lv_iadd hx hb dL_law_678 ?_
  refine va_sld hx hb hX hbl hbA hw.2.2.2 v2 dL_law_679 ?_
  refine lv_aload_n hx hb dL_law_680 rfl (lv_at hl 0 rfl) ?_
  refine lv_iload_n hx hb dL_law_681 rfl (lv_at hl 3 rfl) ?_
  refine lv_iconst (v := nI 3) hx hb dL_law_682 (by decide) ?_
  refine lv_iadd hx hb dL_law_683 ?_
  refine va_sld hx hb hX hbl hbA hw.2.2.2 v3 dL_law_684 ?_
  refine lv_aload_n hx hb dL_law_685 rfl (lv_at hl 0 rfl) ?_
  refine lv_iload_n hx hb dL_law_686 rfl (lv_at hl 3 rfl) ?_
  refine lv_iconst (v := nI 4) hx hb dL_law_687 (by decide) ?_
  refine lv_iadd hx hb dL_law_688 ?_
  refine va_sld hx hb hX hbl hbA hw.2.2.2 v4 dL_law_689 ?_
  refine z_l2i (b := 0) (As := [.int (xs (nI i + nI 1).toNatClampNeg), .int (xs (nI i + nI 2).toNatClampNeg), .int (xs (nI i + nI 3).toNatClampNeg), .int (xs (nI i + nI 4).toNatClampNeg)]) (rest := [_]) ⟨hx, hb, hml, hown, hts⟩ hK hw hA (kX11_witness l D g ad1 τ (xs (nI i + nI 1).toNatClampNeg) (xs (nI i + nI 2).toNatClampNeg) (xs (nI i + nI 3).toNatClampNeg) (xs (nI i + nI 4).toNatClampNeg) (r, τ') e2) (zcwV 4 hts zgoodTbl zw_1045 zw_1046 zw_1047 zw_64 zw_1048 rfl rfl hX11_witness ⟨Nat.le_of_ble_eq_true rfl, Nat.le_of_ble_eq_true rfl⟩) zO1_0 rfl hl.1 rfl (Nat.le_of_ble_eq_true rfl) dL_law_690 ⟨Nat.le_of_ble_eq_true rfl, Nat.le_of_ble_eq_true rfl⟩ (fun H locs hw => ?_)
  have hw := hw.flip
  refine lv_icmp_eq (tgt := 1616) hx hb dL_law_693 (by decide) (fun _ => ?_) (fun h => absurd rfl h)
  exact hk _ _ _ _ hI hw
set_option maxHeartbeats 4000000 in
set_option maxRecDepth 100000 in
theorem lc_answers {p : Program} {l : Launch} {e : Env} {s : State} {m : MethodId} {below : List Frame} {meth : Method} {c : Code} {b L i : Nat} {xs : Nat → Int32} {D : va_G} {g : zG} {ad0 ad1 : Nat → Nat} {Q : State → Prop} (C : lwC p s m c b L i xs D g) {σ τ : zSt} {H : Heap} {locs : List Loc} {ls : Array Slot} (hI : Inv σ τ) (hw : zL2 D g 0 ad0 (fun q => s.heap.size ≤ q) s.heap σ (zW g 1 ad1 τ) H locs) (hl : lv_has ls 4 [(0, .ref b), (1, .ref (ad0 0)), (2, .ref (ad1 0)), (3, .int (nI i))]) (hk : ∀ (σ τ : zSt) (H : Heap) (locs : List Loc), Inv σ τ → zL2 D g 0 ad0 (fun q => s.heap.size ≤ q) s.heap σ (zW g 1 ad1 τ) H locs → W p l e room_1 s m #[.ref b] below meth c H locs 101 14404 Q (F0 m 1616 ls [])) : W p l e room_1 s m #[.ref b] below meth c H locs 101 14404 Q (F0 m 698 ls []) := by
  obtain ⟨hx, hb, hml, hown, hts, hK, hX, hbl, hi, hL⟩ := C
  have hA : ∀ q : Nat, s.heap.size ≤ q → (fun q : Nat => s.heap.size ≤ q) q := fun _ h => h
  have hbA : ¬ (fun q : Nat => s.heap.size ≤ q) b := Nat.not_le.mpr hbl
  have v1 := lw_in (a := 1) hi hL (by decide)
  have v2 := lw_in (a := 2) hi hL (by decide)
  obtain ⟨r, e1, e2⟩ := q_answers hI (xs (nI i + nI 1).toNatClampNeg) (xs (nI i + nI 2).toNatClampNeg)
  refine lv_aload_n hx hb dL_law_698 rfl (lv_at hl 1 rfl) ?_
  refine lv_aload_n hx hb dL_law_699 rfl (lv_at hl 0 rfl) ?_
  refine lv_iload_n hx hb dL_law_700 rfl (lv_at hl 3 rfl) ?_
  refine lv_iconst (v := nI 1) hx hb dL_law_701 (by decide) ?_
  refine lv_iadd hx hb dL_law_702 ?_
  refine va_sld hx hb hX hbl hbA hw.2.2.2 v1 dL_law_703 ?_
  refine lv_aload_n hx hb dL_law_704 rfl (lv_at hl 0 rfl) ?_
  refine lv_iload_n hx hb dL_law_705 rfl (lv_at hl 3 rfl) ?_
  refine lv_iconst (v := nI 2) hx hb dL_law_706 (by decide) ?_
  refine lv_iadd hx hb dL_law_707 ?_
  refine va_sld hx hb hX hbl hbA hw.2.2.2 v2 dL_law_708 ?_
  refine z_l2i (b := 0) (As := [.int (xs (nI i + nI 1).toNatClampNeg), .int (xs (nI i + nI 2).toNatClampNeg)]) (rest := []) ⟨hx, hb, hml, hown, hts⟩ hK hw hA (kX10_answers l D g ad0 σ (xs (nI i + nI 1).toNatClampNeg) (xs (nI i + nI 2).toNatClampNeg) r e1) (zcwV 2 hts zgoodTbl zw_540 zw_541 zw_542 zw_52 zw_543 rfl rfl hX10_answers ⟨Nat.le_of_ble_eq_true rfl, Nat.le_of_ble_eq_true rfl⟩) zO0_0 rfl hl.1 rfl (Nat.le_of_ble_eq_true rfl) dL_law_709 ⟨Nat.le_of_ble_eq_true rfl, Nat.le_of_ble_eq_true rfl⟩ (fun H locs hw => ?_)
  have hw := hw.flip
  refine lv_aload_n hx hb dL_law_712 rfl (lv_at hl 2 rfl) ?_
  refine lv_aload_n hx hb dL_law_713 rfl (lv_at hl 0 rfl) ?_
  refine lv_iload_n hx hb dL_law_714 rfl (lv_at hl 3 rfl) ?_
  refine lv_iconst (v := nI 1) hx hb dL_law_715 (by decide) ?_
  refine lv_iadd hx hb dL_law_716 ?_
  refine va_sld hx hb hX hbl hbA hw.2.2.2 v1 dL_law_717 ?_
  refine lv_aload_n hx hb dL_law_718 rfl (lv_at hl 0 rfl) ?_
  refine lv_iload_n hx hb dL_law_719 rfl (lv_at hl 3 rfl) ?_
  refine lv_iconst (v := nI 2) hx hb dL_law_720 (by decide) ?_
  refine lv_iadd hx hb dL_law_721 ?_
  refine va_sld hx hb hX hbl hbA hw.2.2.2 v2 dL_law_722 ?_
  refine z_l2i (b := 0) (As := [.int (xs (nI i + nI 1).toNatClampNeg), .int (xs (nI i + nI 2).toNatClampNeg)]) (rest := [_]) ⟨hx, hb, hml, hown, hts⟩ hK hw hA (kX11_answers l D g ad1 τ (xs (nI i + nI 1).toNatClampNeg) (xs (nI i + nI 2).toNatClampNeg) r e2) (zcwV 2 hts zgoodTbl zw_1053 zw_1054 zw_1055 zw_64 zw_1056 rfl rfl hX11_answers ⟨Nat.le_of_ble_eq_true rfl, Nat.le_of_ble_eq_true rfl⟩) zO1_0 rfl hl.1 rfl (Nat.le_of_ble_eq_true rfl) dL_law_723 ⟨Nat.le_of_ble_eq_true rfl, Nat.le_of_ble_eq_true rfl⟩ (fun H locs hw => ?_)
  have hw := hw.flip
  refine lv_icmp_eq (tgt := 1616) hx hb dL_law_726 (by decide) (fun _ => ?_) (fun h => absurd rfl h)
  exact hk _ _ _ _ hI hw
set_option maxHeartbeats 4000000 in
set_option maxRecDepth 100000 in
theorem lc_heard {p : Program} {l : Launch} {e : Env} {s : State} {m : MethodId} {below : List Frame} {meth : Method} {c : Code} {b L i : Nat} {xs : Nat → Int32} {D : va_G} {g : zG} {ad0 ad1 : Nat → Nat} {Q : State → Prop} (C : lwC p s m c b L i xs D g) {σ τ : zSt} {H : Heap} {locs : List Loc} {ls : Array Slot} (hI : Inv σ τ) (hw : zL2 D g 0 ad0 (fun q => s.heap.size ≤ q) s.heap σ (zW g 1 ad1 τ) H locs) (hl : lv_has ls 4 [(0, .ref b), (1, .ref (ad0 0)), (2, .ref (ad1 0)), (3, .int (nI i))]) (hk : ∀ (σ τ : zSt) (H : Heap) (locs : List Loc), Inv σ τ → zL2 D g 0 ad0 (fun q => s.heap.size ≤ q) s.heap σ (zW g 1 ad1 τ) H locs → W p l e room_1 s m #[.ref b] below meth c H locs 101 14404 Q (F0 m 1616 ls [])) : W p l e room_1 s m #[.ref b] below meth c H locs 101 14404 Q (F0 m 731 ls []) := by
  obtain ⟨hx, hb, hml, hown, hts, hK, hX, hbl, hi, hL⟩ := C
  have hA : ∀ q : Nat, s.heap.size ≤ q → (fun q : Nat => s.heap.size ≤ q) q := fun _ h => h
  have hbA : ¬ (fun q : Nat => s.heap.size ≤ q) b := Nat.not_le.mpr hbl
  have v1 := lw_in (a := 1) hi hL (by decide)
  have v2 := lw_in (a := 2) hi hL (by decide)
  have v3 := lw_in (a := 3) hi hL (by decide)
  have v4 := lw_in (a := 4) hi hL (by decide)
  obtain ⟨r, σ', e1, e2, hI⟩ := q_heard hI (xs (nI i + nI 1).toNatClampNeg) (xs (nI i + nI 2).toNatClampNeg) (xs (nI i + nI 3).toNatClampNeg) (xs (nI i + nI 4).toNatClampNeg)
  refine lv_aload_n hx hb dL_law_731 rfl (lv_at hl 1 rfl) ?_
  refine lv_aload_n hx hb dL_law_732 rfl (lv_at hl 0 rfl) ?_
  refine lv_iload_n hx hb dL_law_733 rfl (lv_at hl 3 rfl) ?_
  refine lv_iconst (v := nI 1) hx hb dL_law_734 (by decide) ?_
  refine lv_iadd hx hb dL_law_735 ?_
  refine va_sld hx hb hX hbl hbA hw.2.2.2 v1 dL_law_736 ?_
  refine lv_aload_n hx hb dL_law_737 rfl (lv_at hl 0 rfl) ?_
  refine lv_iload_n hx hb dL_law_738 rfl (lv_at hl 3 rfl) ?_
  refine lv_iconst (v := nI 2) hx hb dL_law_739 (by decide) ?_
  refine lv_iadd hx hb dL_law_740 ?_
  refine va_sld hx hb hX hbl hbA hw.2.2.2 v2 dL_law_741 ?_
  refine lv_aload_n hx hb dL_law_742 rfl (lv_at hl 0 rfl) ?_
  refine lv_iload_n hx hb dL_law_743 rfl (lv_at hl 3 rfl) ?_
  refine lv_iconst (v := nI 3) hx hb dL_law_744 (by decide) ?_
  refine lv_iadd hx hb dL_law_745 ?_
  refine va_sld hx hb hX hbl hbA hw.2.2.2 v3 dL_law_746 ?_
  refine lv_aload_n hx hb dL_law_747 rfl (lv_at hl 0 rfl) ?_
  refine lv_iload_n hx hb dL_law_748 rfl (lv_at hl 3 rfl) ?_
  refine lv_iconst (v := nI 4) hx hb dL_law_749 (by decide) ?_
  refine lv_iadd hx hb dL_law_750 ?_
  refine va_sld hx hb hX hbl hbA hw.2.2.2 v4 dL_law_751 ?_
  refine z_l2l (b := 0) (As := [.int (xs (nI i + nI 1).toNatClampNeg), .int (xs (nI i + nI 2).toNatClampNeg), .int (xs (nI i + nI 3).toNatClampNeg), .int (xs (nI i + nI 4).toNatClampNeg)]) (rest := []) ⟨hx, hb, hml, hown, hts⟩ hK hw hA (kX10_heard l D g ad0 σ (xs (nI i + nI 1).toNatClampNeg) (xs (nI i + nI 2).toNatClampNeg) (xs (nI i + nI 3).toNatClampNeg) (xs (nI i + nI 4).toNatClampNeg) (r, σ') e1) (zcwV 4 hts zgoodTbl zw_544 zw_545 zw_546 zw_52 zw_547 rfl rfl hX10_heard ⟨Nat.le_of_ble_eq_true rfl, Nat.le_of_ble_eq_true rfl⟩) zO0_0 rfl hl.1 rfl (Nat.le_of_ble_eq_true rfl) dL_law_752 ⟨Nat.le_of_ble_eq_true rfl, Nat.le_of_ble_eq_true rfl⟩ (fun H locs hw => ?_)
  have hw := hw.flip
  refine lv_aload_n hx hb dL_law_755 rfl (lv_at hl 2 rfl) ?_
  refine lv_aload_n hx hb dL_law_756 rfl (lv_at hl 0 rfl) ?_
  refine lv_iload_n hx hb dL_law_757 rfl (lv_at hl 3 rfl) ?_
  refine lv_iconst (v := nI 1) hx hb dL_law_758 (by decide) ?_
  refine lv_iadd hx hb dL_law_759 ?_
  refine va_sld hx hb hX hbl hbA hw.2.2.2 v1 dL_law_760 ?_
  refine lv_aload_n hx hb dL_law_761 rfl (lv_at hl 0 rfl) ?_
  refine lv_iload_n hx hb dL_law_762 rfl (lv_at hl 3 rfl) ?_
  refine lv_iconst (v := nI 2) hx hb dL_law_763 (by decide) ?_
  refine lv_iadd hx hb dL_law_764 ?_
  refine va_sld hx hb hX hbl hbA hw.2.2.2 v2 dL_law_765 ?_
  refine lv_aload_n hx hb dL_law_766 rfl (lv_at hl 0 rfl) ?_
  refine lv_iload_n hx hb dL_law_767 rfl (lv_at hl 3 rfl) ?_
  refine lv_iconst (v := nI 3) hx hb dL_law_768 (by decide) ?_
  refine lv_iadd hx hb dL_law_769 ?_
  refine va_sld hx hb hX hbl hbA hw.2.2.2 v3 dL_law_770 ?_
  refine lv_aload_n hx hb dL_law_771 rfl (lv_at hl 0 rfl) ?_
  refine lv_iload_n hx hb dL_law_772 rfl (lv_at hl 3 rfl) ?_
  refine lv_iconst (v := nI 4) hx hb dL_law_773 (by decide) ?_
  refine lv_iadd hx hb dL_law_774 ?_
  refine va_sld hx hb hX hbl hbA hw.2.2.2 v4 dL_law_775 ?_
  refine z_l2l (b := 0) (As := [.int (xs (nI i + nI 1).toNatClampNeg), .int (xs (nI i + nI 2).toNatClampNeg), .int (xs (nI i + nI 3).toNatClampNeg), .int (xs (nI i + nI 4).toNatClampNeg)]) (rest := [_]) ⟨hx, hb, hml, hown, hts⟩ hK hw hA (kX11_heard l D g ad1 τ (xs (nI i + nI 1).toNatClampNeg) (xs (nI i + nI 2).toNatClampNeg) (xs (nI i + nI 3).toNatClampNeg) (xs (nI i + nI 4).toNatClampNeg) r e2) (zcwV 4 hts zgoodTbl zw_1061 zw_1062 zw_1063 zw_64 zw_1064 rfl rfl hX11_heard ⟨Nat.le_of_ble_eq_true rfl, Nat.le_of_ble_eq_true rfl⟩) zO1_0 rfl hl.1 rfl (Nat.le_of_ble_eq_true rfl) dL_law_776 ⟨Nat.le_of_ble_eq_true rfl, Nat.le_of_ble_eq_true rfl⟩ (fun H locs hw => ?_)
  have hw := hw.flip
  refine z_lceq (tgt := 1616) hx hb dL_law_779 dL_law_780 (by decide) (fun _ => ?_) (fun h => absurd rfl h)
  exact hk _ _ _ _ hI hw
set_option maxHeartbeats 4000000 in
set_option maxRecDepth 100000 in
theorem lc_reached {p : Program} {l : Launch} {e : Env} {s : State} {m : MethodId} {below : List Frame} {meth : Method} {c : Code} {b L i : Nat} {xs : Nat → Int32} {D : va_G} {g : zG} {ad0 ad1 : Nat → Nat} {Q : State → Prop} (C : lwC p s m c b L i xs D g) {σ τ : zSt} {H : Heap} {locs : List Loc} {ls : Array Slot} (hI : Inv σ τ) (hw : zL2 D g 0 ad0 (fun q => s.heap.size ≤ q) s.heap σ (zW g 1 ad1 τ) H locs) (hl : lv_has ls 4 [(0, .ref b), (1, .ref (ad0 0)), (2, .ref (ad1 0)), (3, .int (nI i))]) (hk : ∀ (σ τ : zSt) (H : Heap) (locs : List Loc), Inv σ τ → zL2 D g 0 ad0 (fun q => s.heap.size ≤ q) s.heap σ (zW g 1 ad1 τ) H locs → W p l e room_1 s m #[.ref b] below meth c H locs 101 14404 Q (F0 m 1616 ls [])) : W p l e room_1 s m #[.ref b] below meth c H locs 101 14404 Q (F0 m 785 ls []) := by
  obtain ⟨hx, hb, hml, hown, hts, hK, hX, hbl, hi, hL⟩ := C
  have hA : ∀ q : Nat, s.heap.size ≤ q → (fun q : Nat => s.heap.size ≤ q) q := fun _ h => h
  have hbA : ¬ (fun q : Nat => s.heap.size ≤ q) b := Nat.not_le.mpr hbl
  have v1 := lw_in (a := 1) hi hL (by decide)
  have v2 := lw_in (a := 2) hi hL (by decide)
  have v3 := lw_in (a := 3) hi hL (by decide)
  have v4 := lw_in (a := 4) hi hL (by decide)
  obtain ⟨r, σ', e1, e2, hI⟩ := q_reached hI (xs (nI i + nI 1).toNatClampNeg) (xs (nI i + nI 2).toNatClampNeg) (xs (nI i + nI 3).toNatClampNeg) (xs (nI i + nI 4).toNatClampNeg)
  refine lv_aload_n hx hb dL_law_785 rfl (lv_at hl 1 rfl) ?_
  refine lv_aload_n hx hb dL_law_786 rfl (lv_at hl 0 rfl) ?_
  refine lv_iload_n hx hb dL_law_787 rfl (lv_at hl 3 rfl) ?_
  refine lv_iconst (v := nI 1) hx hb dL_law_788 (by decide) ?_
  refine lv_iadd hx hb dL_law_789 ?_
  refine va_sld hx hb hX hbl hbA hw.2.2.2 v1 dL_law_790 ?_
  refine lv_aload_n hx hb dL_law_791 rfl (lv_at hl 0 rfl) ?_
  refine lv_iload_n hx hb dL_law_792 rfl (lv_at hl 3 rfl) ?_
  refine lv_iconst (v := nI 2) hx hb dL_law_793 (by decide) ?_
  refine lv_iadd hx hb dL_law_794 ?_
  refine va_sld hx hb hX hbl hbA hw.2.2.2 v2 dL_law_795 ?_
  refine lv_aload_n hx hb dL_law_796 rfl (lv_at hl 0 rfl) ?_
  refine lv_iload_n hx hb dL_law_797 rfl (lv_at hl 3 rfl) ?_
  refine lv_iconst (v := nI 3) hx hb dL_law_798 (by decide) ?_
  refine lv_iadd hx hb dL_law_799 ?_
  refine va_sld hx hb hX hbl hbA hw.2.2.2 v3 dL_law_800 ?_
  refine lv_aload_n hx hb dL_law_801 rfl (lv_at hl 0 rfl) ?_
  refine lv_iload_n hx hb dL_law_802 rfl (lv_at hl 3 rfl) ?_
  refine lv_iconst (v := nI 4) hx hb dL_law_803 (by decide) ?_
  refine lv_iadd hx hb dL_law_804 ?_
  refine va_sld hx hb hX hbl hbA hw.2.2.2 v4 dL_law_805 ?_
  refine z_l2l (b := 0) (As := [.int (xs (nI i + nI 1).toNatClampNeg), .int (xs (nI i + nI 2).toNatClampNeg), .int (xs (nI i + nI 3).toNatClampNeg), .int (xs (nI i + nI 4).toNatClampNeg)]) (rest := []) ⟨hx, hb, hml, hown, hts⟩ hK hw hA (kX10_reached l D g ad0 σ (xs (nI i + nI 1).toNatClampNeg) (xs (nI i + nI 2).toNatClampNeg) (xs (nI i + nI 3).toNatClampNeg) (xs (nI i + nI 4).toNatClampNeg) (r, σ') e1) (zcwV 4 hts zgoodTbl zw_572 zw_573 zw_574 zw_52 zw_575 rfl rfl hX10_reached ⟨Nat.le_of_ble_eq_true rfl, Nat.le_of_ble_eq_true rfl⟩) zO0_0 rfl hl.1 rfl (Nat.le_of_ble_eq_true rfl) dL_law_806 ⟨Nat.le_of_ble_eq_true rfl, Nat.le_of_ble_eq_true rfl⟩ (fun H locs hw => ?_)
  have hw := hw.flip
  refine lv_aload_n hx hb dL_law_809 rfl (lv_at hl 2 rfl) ?_
  refine lv_aload_n hx hb dL_law_810 rfl (lv_at hl 0 rfl) ?_
  refine lv_iload_n hx hb dL_law_811 rfl (lv_at hl 3 rfl) ?_
  refine lv_iconst (v := nI 1) hx hb dL_law_812 (by decide) ?_
  refine lv_iadd hx hb dL_law_813 ?_
  refine va_sld hx hb hX hbl hbA hw.2.2.2 v1 dL_law_814 ?_
  refine lv_aload_n hx hb dL_law_815 rfl (lv_at hl 0 rfl) ?_
  refine lv_iload_n hx hb dL_law_816 rfl (lv_at hl 3 rfl) ?_
  refine lv_iconst (v := nI 2) hx hb dL_law_817 (by decide) ?_
  refine lv_iadd hx hb dL_law_818 ?_
  refine va_sld hx hb hX hbl hbA hw.2.2.2 v2 dL_law_819 ?_
  refine lv_aload_n hx hb dL_law_820 rfl (lv_at hl 0 rfl) ?_
  refine lv_iload_n hx hb dL_law_821 rfl (lv_at hl 3 rfl) ?_
  refine lv_iconst (v := nI 3) hx hb dL_law_822 (by decide) ?_
  refine lv_iadd hx hb dL_law_823 ?_
  refine va_sld hx hb hX hbl hbA hw.2.2.2 v3 dL_law_824 ?_
  refine lv_aload_n hx hb dL_law_825 rfl (lv_at hl 0 rfl) ?_
  refine lv_iload_n hx hb dL_law_826 rfl (lv_at hl 3 rfl) ?_
  refine lv_iconst (v := nI 4) hx hb dL_law_827 (by decide) ?_
  refine lv_iadd hx hb dL_law_828 ?_
  refine va_sld hx hb hX hbl hbA hw.2.2.2 v4 dL_law_829 ?_
  refine z_l2l (b := 0) (As := [.int (xs (nI i + nI 1).toNatClampNeg), .int (xs (nI i + nI 2).toNatClampNeg), .int (xs (nI i + nI 3).toNatClampNeg), .int (xs (nI i + nI 4).toNatClampNeg)]) (rest := [_]) ⟨hx, hb, hml, hown, hts⟩ hK hw hA (kX11_reached l D g ad1 τ (xs (nI i + nI 1).toNatClampNeg) (xs (nI i + nI 2).toNatClampNeg) (xs (nI i + nI 3).toNatClampNeg) (xs (nI i + nI 4).toNatClampNeg) r e2) (zcwV 4 hts zgoodTbl zw_1078 zw_1079 zw_1080 zw_64 zw_1081 rfl rfl hX11_reached ⟨Nat.le_of_ble_eq_true rfl, Nat.le_of_ble_eq_true rfl⟩) zO1_0 rfl hl.1 rfl (Nat.le_of_ble_eq_true rfl) dL_law_830 ⟨Nat.le_of_ble_eq_true rfl, Nat.le_of_ble_eq_true rfl⟩ (fun H locs hw => ?_)
  have hw := hw.flip
  refine z_lceq (tgt := 1616) hx hb dL_law_833 dL_law_834 (by decide) (fun _ => ?_) (fun h => absurd rfl h)
  exact hk _ _ _ _ hI hw
set_option maxHeartbeats 4000000 in
set_option maxRecDepth 100000 in
theorem lc_said {p : Program} {l : Launch} {e : Env} {s : State} {m : MethodId} {below : List Frame} {meth : Method} {c : Code} {b L i : Nat} {xs : Nat → Int32} {D : va_G} {g : zG} {ad0 ad1 : Nat → Nat} {Q : State → Prop} (C : lwC p s m c b L i xs D g) {σ τ : zSt} {H : Heap} {locs : List Loc} {ls : Array Slot} (hI : Inv σ τ) (hw : zL2 D g 0 ad0 (fun q => s.heap.size ≤ q) s.heap σ (zW g 1 ad1 τ) H locs) (hl : lv_has ls 4 [(0, .ref b), (1, .ref (ad0 0)), (2, .ref (ad1 0)), (3, .int (nI i))]) (hk : ∀ (σ τ : zSt) (H : Heap) (locs : List Loc), Inv σ τ → zL2 D g 0 ad0 (fun q => s.heap.size ≤ q) s.heap σ (zW g 1 ad1 τ) H locs → W p l e room_1 s m #[.ref b] below meth c H locs 101 14404 Q (F0 m 1616 ls [])) : W p l e room_1 s m #[.ref b] below meth c H locs 101 14404 Q (F0 m 839 ls []) := by
  obtain ⟨hx, hb, hml, hown, hts, hK, hX, hbl, hi, hL⟩ := C
  have hA : ∀ q : Nat, s.heap.size ≤ q → (fun q : Nat => s.heap.size ≤ q) q := fun _ h => h
  have hbA : ¬ (fun q : Nat => s.heap.size ≤ q) b := Nat.not_le.mpr hbl
  have v1 := lw_in (a := 1) hi hL (by decide)
  have v2 := lw_in (a := 2) hi hL (by decide)
  have v3 := lw_in (a := 3) hi hL (by decide)
  have v4 := lw_in (a := 4) hi hL (by decide)
  obtain ⟨r, σ', e1, e2, hI⟩ := q_said hI (xs (nI i + nI 1).toNatClampNeg) (xs (nI i + nI 2).toNatClampNeg) (xs (nI i + nI 3).toNatClampNeg) (xs (nI i + nI 4).toNatClampNeg)
  refine lv_aload_n hx hb dL_law_839 rfl (lv_at hl 1 rfl) ?_
  refine lv_aload_n hx hb dL_law_840 rfl (lv_at hl 0 rfl) ?_
  refine lv_iload_n hx hb dL_law_841 rfl (lv_at hl 3 rfl) ?_
  refine lv_iconst (v := nI 1) hx hb dL_law_842 (by decide) ?_
  refine lv_iadd hx hb dL_law_843 ?_
  refine va_sld hx hb hX hbl hbA hw.2.2.2 v1 dL_law_844 ?_
  refine lv_aload_n hx hb dL_law_845 rfl (lv_at hl 0 rfl) ?_
  refine lv_iload_n hx hb dL_law_846 rfl (lv_at hl 3 rfl) ?_
  refine lv_iconst (v := nI 2) hx hb dL_law_847 (by decide) ?_
  refine lv_iadd hx hb dL_law_848 ?_
  refine va_sld hx hb hX hbl hbA hw.2.2.2 v2 dL_law_849 ?_
  refine lv_aload_n hx hb dL_law_850 rfl (lv_at hl 0 rfl) ?_
  refine lv_iload_n hx hb dL_law_851 rfl (lv_at hl 3 rfl) ?_
  refine lv_iconst (v := nI 3) hx hb dL_law_852 (by decide) ?_
  refine lv_iadd hx hb dL_law_853 ?_
  refine va_sld hx hb hX hbl hbA hw.2.2.2 v3 dL_law_854 ?_
  refine lv_aload_n hx hb dL_law_855 rfl (lv_at hl 0 rfl) ?_
  refine lv_iload_n hx hb dL_law_856 rfl (lv_at hl 3 rfl) ?_
  refine lv_iconst (v := nI 4) hx hb dL_law_857 (by decide) ?_
  refine lv_iadd hx hb dL_law_858 ?_
  refine va_sld hx hb hX hbl hbA hw.2.2.2 v4 dL_law_859 ?_
  refine z_l2l (b := 0) (As := [.int (xs (nI i + nI 1).toNatClampNeg), .int (xs (nI i + nI 2).toNatClampNeg), .int (xs (nI i + nI 3).toNatClampNeg), .int (xs (nI i + nI 4).toNatClampNeg)]) (rest := []) ⟨hx, hb, hml, hown, hts⟩ hK hw hA (kX10_said l D g ad0 σ (xs (nI i + nI 1).toNatClampNeg) (xs (nI i + nI 2).toNatClampNeg) (xs (nI i + nI 3).toNatClampNeg) (xs (nI i + nI 4).toNatClampNeg) (r, σ') e1) (zcwV 4 hts zgoodTbl zw_585 zw_586 zw_587 zw_52 zw_588 rfl rfl hX10_said ⟨Nat.le_of_ble_eq_true rfl, Nat.le_of_ble_eq_true rfl⟩) zO0_0 rfl hl.1 rfl (Nat.le_of_ble_eq_true rfl) dL_law_860 ⟨Nat.le_of_ble_eq_true rfl, Nat.le_of_ble_eq_true rfl⟩ (fun H locs hw => ?_)
  have hw := hw.flip
  refine lv_aload_n hx hb dL_law_863 rfl (lv_at hl 2 rfl) ?_
  refine lv_aload_n hx hb dL_law_864 rfl (lv_at hl 0 rfl) ?_
  refine lv_iload_n hx hb dL_law_865 rfl (lv_at hl 3 rfl) ?_
  refine lv_iconst (v := nI 1) hx hb dL_law_866 (by decide) ?_
  refine lv_iadd hx hb dL_law_867 ?_
  refine va_sld hx hb hX hbl hbA hw.2.2.2 v1 dL_law_868 ?_
  refine lv_aload_n hx hb dL_law_869 rfl (lv_at hl 0 rfl) ?_
  refine lv_iload_n hx hb dL_law_870 rfl (lv_at hl 3 rfl) ?_
  refine lv_iconst (v := nI 2) hx hb dL_law_871 (by decide) ?_
  refine lv_iadd hx hb dL_law_872 ?_
  refine va_sld hx hb hX hbl hbA hw.2.2.2 v2 dL_law_873 ?_
  refine lv_aload_n hx hb dL_law_874 rfl (lv_at hl 0 rfl) ?_
  refine lv_iload_n hx hb dL_law_875 rfl (lv_at hl 3 rfl) ?_
  refine lv_iconst (v := nI 3) hx hb dL_law_876 (by decide) ?_
  refine lv_iadd hx hb dL_law_877 ?_
  refine va_sld hx hb hX hbl hbA hw.2.2.2 v3 dL_law_878 ?_
  refine lv_aload_n hx hb dL_law_879 rfl (lv_at hl 0 rfl) ?_
  refine lv_iload_n hx hb dL_law_880 rfl (lv_at hl 3 rfl) ?_
  refine lv_iconst (v := nI 4) hx hb dL_law_881 (by decide) ?_
  refine lv_iadd hx hb dL_law_882 ?_
  refine va_sld hx hb hX hbl hbA hw.2.2.2 v4 dL_law_883 ?_
  refine z_l2l (b := 0) (As := [.int (xs (nI i + nI 1).toNatClampNeg), .int (xs (nI i + nI 2).toNatClampNeg), .int (xs (nI i + nI 3).toNatClampNeg), .int (xs (nI i + nI 4).toNatClampNeg)]) (rest := [_]) ⟨hx, hb, hml, hown, hts⟩ hK hw hA (kX11_said l D g ad1 τ (xs (nI i + nI 1).toNatClampNeg) (xs (nI i + nI 2).toNatClampNeg) (xs (nI i + nI 3).toNatClampNeg) (xs (nI i + nI 4).toNatClampNeg) r e2) (zcwV 4 hts zgoodTbl zw_1086 zw_1087 zw_1088 zw_64 zw_1089 rfl rfl hX11_said ⟨Nat.le_of_ble_eq_true rfl, Nat.le_of_ble_eq_true rfl⟩) zO1_0 rfl hl.1 rfl (Nat.le_of_ble_eq_true rfl) dL_law_884 ⟨Nat.le_of_ble_eq_true rfl, Nat.le_of_ble_eq_true rfl⟩ (fun H locs hw => ?_)
  have hw := hw.flip
  refine z_lceq (tgt := 1616) hx hb dL_law_887 dL_law_888 (by decide) (fun _ => ?_) (fun h => absurd rfl h)
  exact hk _ _ _ _ hI hw
set_option maxHeartbeats 4000000 in
set_option maxRecDepth 100000 in
theorem lc_over {p : Program} {l : Launch} {e : Env} {s : State} {m : MethodId} {below : List Frame} {meth : Method} {c : Code} {b L i : Nat} {xs : Nat → Int32} {D : va_G} {g : zG} {ad0 ad1 : Nat → Nat} {Q : State → Prop} (C : lwC p s m c b L i xs D g) {σ τ : zSt} {H : Heap} {locs : List Loc} {ls : Array Slot} (hI : Inv σ τ) (hw : zL2 D g 0 ad0 (fun q => s.heap.size ≤ q) s.heap σ (zW g 1 ad1 τ) H locs) (hl : lv_has ls 4 [(0, .ref b), (1, .ref (ad0 0)), (2, .ref (ad1 0)), (3, .int (nI i))]) (hk : ∀ (σ τ : zSt) (H : Heap) (locs : List Loc), Inv σ τ → zL2 D g 0 ad0 (fun q => s.heap.size ≤ q) s.heap σ (zW g 1 ad1 τ) H locs → W p l e room_1 s m #[.ref b] below meth c H locs 101 14404 Q (F0 m 1616 ls [])) : W p l e room_1 s m #[.ref b] below meth c H locs 101 14404 Q (F0 m 893 ls []) := by
  obtain ⟨hx, hb, hml, hown, hts, hK, hX, hbl, hi, hL⟩ := C
  have hA : ∀ q : Nat, s.heap.size ≤ q → (fun q : Nat => s.heap.size ≤ q) q := fun _ h => h
  have hbA : ¬ (fun q : Nat => s.heap.size ≤ q) b := Nat.not_le.mpr hbl
  have v1 := lw_in (a := 1) hi hL (by decide)
  have v2 := lw_in (a := 2) hi hL (by decide)
  have v3 := lw_in (a := 3) hi hL (by decide)
  obtain ⟨r, σ', e1, e2, hI⟩ := q_over hI (xs (nI i + nI 1).toNatClampNeg) (xs (nI i + nI 2).toNatClampNeg) (xs (nI i + nI 3).toNatClampNeg)
  refine lv_aload_n hx hb dL_law_893 rfl (lv_at hl 1 rfl) ?_
  refine lv_aload_n hx hb dL_law_894 rfl (lv_at hl 0 rfl) ?_
  refine lv_iload_n hx hb dL_law_895 rfl (lv_at hl 3 rfl) ?_
  refine lv_iconst (v := nI 1) hx hb dL_law_896 (by decide) ?_
  refine lv_iadd hx hb dL_law_897 ?_
  refine va_sld hx hb hX hbl hbA hw.2.2.2 v1 dL_law_898 ?_
  refine lv_aload_n hx hb dL_law_899 rfl (lv_at hl 0 rfl) ?_
  refine lv_iload_n hx hb dL_law_900 rfl (lv_at hl 3 rfl) ?_
  refine lv_iconst (v := nI 2) hx hb dL_law_901 (by decide) ?_
  refine lv_iadd hx hb dL_law_902 ?_
  refine va_sld hx hb hX hbl hbA hw.2.2.2 v2 dL_law_903 ?_
  refine lv_aload_n hx hb dL_law_904 rfl (lv_at hl 0 rfl) ?_
  refine lv_iload_n hx hb dL_law_905 rfl (lv_at hl 3 rfl) ?_
  refine lv_iconst (v := nI 3) hx hb dL_law_906 (by decide) ?_
  refine lv_iadd hx hb dL_law_907 ?_
  refine va_sld hx hb hX hbl hbA hw.2.2.2 v3 dL_law_908 ?_
  refine z_l2l (b := 0) (As := [.int (xs (nI i + nI 1).toNatClampNeg), .int (xs (nI i + nI 2).toNatClampNeg), .int (xs (nI i + nI 3).toNatClampNeg)]) (rest := []) ⟨hx, hb, hml, hown, hts⟩ hK hw hA (kX10_over l D g ad0 σ (xs (nI i + nI 1).toNatClampNeg) (xs (nI i + nI 2).toNatClampNeg) (xs (nI i + nI 3).toNatClampNeg) (r, σ') e1) (zcwV 3 hts zgoodTbl zw_593 zw_594 zw_595 zw_52 zw_596 rfl rfl hX10_over ⟨Nat.le_of_ble_eq_true rfl, Nat.le_of_ble_eq_true rfl⟩) zO0_0 rfl hl.1 rfl (Nat.le_of_ble_eq_true rfl) dL_law_909 ⟨Nat.le_of_ble_eq_true rfl, Nat.le_of_ble_eq_true rfl⟩ (fun H locs hw => ?_)
  have hw := hw.flip
  refine lv_aload_n hx hb dL_law_912 rfl (lv_at hl 2 rfl) ?_
  refine lv_aload_n hx hb dL_law_913 rfl (lv_at hl 0 rfl) ?_
  refine lv_iload_n hx hb dL_law_914 rfl (lv_at hl 3 rfl) ?_
  refine lv_iconst (v := nI 1) hx hb dL_law_915 (by decide) ?_
  refine lv_iadd hx hb dL_law_916 ?_
  refine va_sld hx hb hX hbl hbA hw.2.2.2 v1 dL_law_917 ?_
  refine lv_aload_n hx hb dL_law_918 rfl (lv_at hl 0 rfl) ?_
  refine lv_iload_n hx hb dL_law_919 rfl (lv_at hl 3 rfl) ?_
  refine lv_iconst (v := nI 2) hx hb dL_law_920 (by decide) ?_
  refine lv_iadd hx hb dL_law_921 ?_
  refine va_sld hx hb hX hbl hbA hw.2.2.2 v2 dL_law_922 ?_
  refine lv_aload_n hx hb dL_law_923 rfl (lv_at hl 0 rfl) ?_
  refine lv_iload_n hx hb dL_law_924 rfl (lv_at hl 3 rfl) ?_
  refine lv_iconst (v := nI 3) hx hb dL_law_925 (by decide) ?_
  refine lv_iadd hx hb dL_law_926 ?_
  refine va_sld hx hb hX hbl hbA hw.2.2.2 v3 dL_law_927 ?_
  refine z_l2l (b := 0) (As := [.int (xs (nI i + nI 1).toNatClampNeg), .int (xs (nI i + nI 2).toNatClampNeg), .int (xs (nI i + nI 3).toNatClampNeg)]) (rest := [_]) ⟨hx, hb, hml, hown, hts⟩ hK hw hA (kX11_over l D g ad1 τ (xs (nI i + nI 1).toNatClampNeg) (xs (nI i + nI 2).toNatClampNeg) (xs (nI i + nI 3).toNatClampNeg) r e2) (zcwV 3 hts zgoodTbl zw_1094 zw_1095 zw_1096 zw_64 zw_1097 rfl rfl hX11_over ⟨Nat.le_of_ble_eq_true rfl, Nat.le_of_ble_eq_true rfl⟩) zO1_0 rfl hl.1 rfl (Nat.le_of_ble_eq_true rfl) dL_law_928 ⟨Nat.le_of_ble_eq_true rfl, Nat.le_of_ble_eq_true rfl⟩ (fun H locs hw => ?_)
  have hw := hw.flip
  refine z_lceq (tgt := 1616) hx hb dL_law_931 dL_law_932 (by decide) (fun _ => ?_) (fun h => absurd rfl h)
  exact hk _ _ _ _ hI hw
set_option maxHeartbeats 4000000 in
set_option maxRecDepth 100000 in
theorem lc_ask {p : Program} {l : Launch} {e : Env} {s : State} {m : MethodId} {below : List Frame} {meth : Method} {c : Code} {b L i : Nat} {xs : Nat → Int32} {D : va_G} {g : zG} {ad0 ad1 : Nat → Nat} {Q : State → Prop} (C : lwC p s m c b L i xs D g) {σ τ : zSt} {H : Heap} {locs : List Loc} {ls : Array Slot} (hI : Inv σ τ) (hw : zL2 D g 0 ad0 (fun q => s.heap.size ≤ q) s.heap σ (zW g 1 ad1 τ) H locs) (hl : lv_has ls 4 [(0, .ref b), (1, .ref (ad0 0)), (2, .ref (ad1 0)), (3, .int (nI i))]) (hk : ∀ (σ τ : zSt) (H : Heap) (locs : List Loc), Inv σ τ → zL2 D g 0 ad0 (fun q => s.heap.size ≤ q) s.heap σ (zW g 1 ad1 τ) H locs → W p l e room_1 s m #[.ref b] below meth c H locs 101 14404 Q (F0 m 1616 ls [])) : W p l e room_1 s m #[.ref b] below meth c H locs 101 14404 Q (F0 m 937 ls []) := by
  obtain ⟨hx, hb, hml, hown, hts, hK, hX, hbl, hi, hL⟩ := C
  have hA : ∀ q : Nat, s.heap.size ≤ q → (fun q : Nat => s.heap.size ≤ q) q := fun _ h => h
  have hbA : ¬ (fun q : Nat => s.heap.size ≤ q) b := Nat.not_le.mpr hbl
  have v1 := lw_in (a := 1) hi hL (by decide)
  have v2 := lw_in (a := 2) hi hL (by decide)
  obtain ⟨r, σ', e1, e2, hI⟩ := q_ask hI (xs (nI i + nI 1).toNatClampNeg) (xs (nI i + nI 2).toNatClampNeg)
  refine lv_aload_n hx hb dL_law_937 rfl (lv_at hl 1 rfl) ?_
  refine lv_aload_n hx hb dL_law_938 rfl (lv_at hl 0 rfl) ?_
  refine lv_iload_n hx hb dL_law_939 rfl (lv_at hl 3 rfl) ?_
  refine lv_iconst (v := nI 1) hx hb dL_law_940 (by decide) ?_
  refine lv_iadd hx hb dL_law_941 ?_
  refine va_sld hx hb hX hbl hbA hw.2.2.2 v1 dL_law_942 ?_
  refine lv_aload_n hx hb dL_law_943 rfl (lv_at hl 0 rfl) ?_
  refine lv_iload_n hx hb dL_law_944 rfl (lv_at hl 3 rfl) ?_
  refine lv_iconst (v := nI 2) hx hb dL_law_945 (by decide) ?_
  refine lv_iadd hx hb dL_law_946 ?_
  refine va_sld hx hb hX hbl hbA hw.2.2.2 v2 dL_law_947 ?_
  refine z_l2i (b := 0) (As := [.int (xs (nI i + nI 1).toNatClampNeg), .int (xs (nI i + nI 2).toNatClampNeg)]) (rest := []) ⟨hx, hb, hml, hown, hts⟩ hK hw hA (kX10_ask l D g ad0 σ (xs (nI i + nI 1).toNatClampNeg) (xs (nI i + nI 2).toNatClampNeg) (r, σ') e1) (zcwV 2 hts zgoodTbl zw_601 zw_602 zw_603 zw_52 zw_604 rfl rfl hX10_ask ⟨Nat.le_of_ble_eq_true rfl, Nat.le_of_ble_eq_true rfl⟩) zO0_0 rfl hl.1 rfl (Nat.le_of_ble_eq_true rfl) dL_law_948 ⟨Nat.le_of_ble_eq_true rfl, Nat.le_of_ble_eq_true rfl⟩ (fun H locs hw => ?_)
  have hw := hw.flip
  refine lv_aload_n hx hb dL_law_951 rfl (lv_at hl 2 rfl) ?_
  refine lv_aload_n hx hb dL_law_952 rfl (lv_at hl 0 rfl) ?_
  refine lv_iload_n hx hb dL_law_953 rfl (lv_at hl 3 rfl) ?_
  refine lv_iconst (v := nI 1) hx hb dL_law_954 (by decide) ?_
  refine lv_iadd hx hb dL_law_955 ?_
  refine va_sld hx hb hX hbl hbA hw.2.2.2 v1 dL_law_956 ?_
  refine lv_aload_n hx hb dL_law_957 rfl (lv_at hl 0 rfl) ?_
  refine lv_iload_n hx hb dL_law_958 rfl (lv_at hl 3 rfl) ?_
  refine lv_iconst (v := nI 2) hx hb dL_law_959 (by decide) ?_
  refine lv_iadd hx hb dL_law_960 ?_
  refine va_sld hx hb hX hbl hbA hw.2.2.2 v2 dL_law_961 ?_
  refine z_l2i (b := 0) (As := [.int (xs (nI i + nI 1).toNatClampNeg), .int (xs (nI i + nI 2).toNatClampNeg)]) (rest := [_]) ⟨hx, hb, hml, hown, hts⟩ hK hw hA (kX11_ask l D g ad1 τ (xs (nI i + nI 1).toNatClampNeg) (xs (nI i + nI 2).toNatClampNeg) r e2) (zcwV 2 hts zgoodTbl zw_1102 zw_1103 zw_1104 zw_64 zw_1105 rfl rfl hX11_ask ⟨Nat.le_of_ble_eq_true rfl, Nat.le_of_ble_eq_true rfl⟩) zO1_0 rfl hl.1 rfl (Nat.le_of_ble_eq_true rfl) dL_law_962 ⟨Nat.le_of_ble_eq_true rfl, Nat.le_of_ble_eq_true rfl⟩ (fun H locs hw => ?_)
  have hw := hw.flip
  refine lv_icmp_eq (tgt := 1616) hx hb dL_law_965 (by decide) (fun _ => ?_) (fun h => absurd rfl h)
  exact hk _ _ _ _ hI hw
