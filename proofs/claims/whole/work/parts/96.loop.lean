/-! THE LAW: its loop, from its entry -/
set_option maxHeartbeats 4000000 in
set_option maxRecDepth 100000 in
theorem law_turn {p : Program} {l : Launch} {e : Env} {s : State} {m : MethodId} {below : List Frame} {meth : Method} {c : Code} {b L i : Nat} {xs : Nat → Int32} {D : va_G} {g : zG} {ad0 ad1 : Nat → Nat} {Q : State → Prop} (C : lwC p s m c b L i xs D g) {σ τ : zSt} {H : Heap} {locs : List Loc} {ls : Array Slot} (x : Int32) (hI : Inv σ τ) (hw : zL2 D g 0 ad0 (fun q => s.heap.size ≤ q) s.heap σ (zW g 1 ad1 τ) H locs) (hl : lv_has ls 4 [(0, .ref b), (1, .ref (ad0 0)), (2, .ref (ad1 0)), (3, .int (nI i))]) (hk : ∀ (σ τ : zSt) (H : Heap) (locs : List Loc), Inv σ τ → zL2 D g 0 ad0 (fun q => s.heap.size ≤ q) s.heap σ (zW g 1 ad1 τ) H locs → W p l e room_1 s m #[.ref b] below meth c H locs 101 14404 Q (F0 m 1616 ls [])) : W p l e room_1 s m #[.ref b] below meth c H locs 101 14404 Q (F0 m 33 ls [.int x]) := by
  have hx : p.tables.exec = Jvm.exec := C.1
  have hb : c.code = code := C.2.1
  rcases pk_ix x (n := 35) (by decide) with h | h | ⟨j, hj, rfl⟩
  · refine lv_tableOut (tgt := 1616) hx hb dL_law_33 (Or.inl (by rw [Int32.lt_iff_toInt_lt] at h; exact h)) (by decide) ?_
    exact hk _ _ _ _ hI hw
  · refine lv_tableOut (tgt := 1616) hx hb dL_law_33 (Or.inr (by rw [Int32.le_iff_toInt_le, nI_toInt (by decide)] at h; omega)) (by decide) ?_
    exact hk _ _ _ _ hI hw
  · have ht : (nI j).toInt = (j : Int) := nI_toInt (by omega)
    have h1 : ¬ (nI j).toInt < 0 := by omega
    have h2 : ¬ (34 : Int) < (nI j).toInt := by omega
    rcases (show j = 0 ∨ j = 1 ∨ j = 2 ∨ j = 3 ∨ j = 4 ∨ j = 5 ∨ j = 6 ∨ j = 7 ∨ j = 8 ∨ j = 9 ∨ j = 10 ∨ j = 11 ∨ j = 12 ∨ j = 13 ∨ j = 14 ∨ j = 15 ∨ j = 16 ∨ j = 17 ∨ j = 18 ∨ j = 19 ∨ j = 20 ∨ j = 21 ∨ j = 22 ∨ j = 23 ∨ j = 24 ∨ j = 25 ∨ j = 26 ∨ j = 27 ∨ j = 28 ∨ j = 29 ∨ j = 30 ∨ j = 31 ∨ j = 32 ∨ j = 33 ∨ j = 34 by omega) with rfl | rfl | rfl | rfl | rfl | rfl | rfl | rfl | rfl | rfl | rfl | rfl | rfl | rfl | rfl | rfl | rfl | rfl | rfl | rfl | rfl | rfl | rfl | rfl | rfl | rfl | rfl | rfl | rfl | rfl | rfl | rfl | rfl | rfl | rfl
    · exact lv_tableIn (off := 155) (tgt := 188) hx hb dL_law_33 h1 h2 (by rw [ht]; rfl) (by decide) (lc_tongues C hI hw hl hk)
    · exact lv_tableIn (off := 208) (tgt := 241) hx hb dL_law_33 h1 h2 (by rw [ht]; rfl) (by decide) (lc_becomes C hI hw hl hk)
    · exact lv_tableIn (off := 251) (tgt := 284) hx hb dL_law_33 h1 h2 (by rw [ht]; rfl) (by decide) (lc_meant C hI hw hl hk)
    · exact lv_tableIn (off := 284) (tgt := 317) hx hb dL_law_33 h1 h2 (by rw [ht]; rfl) (by decide) (lc_alike C hI hw hl hk)
    · exact lv_tableIn (off := 317) (tgt := 350) hx hb dL_law_33 h1 h2 (by rw [ht]; rfl) (by decide) (lc_interpreter C hI hw hl hk)
    · exact lv_tableIn (off := 350) (tgt := 383) hx hb dL_law_33 h1 h2 (by rw [ht]; rfl) (by decide) (lc_ofInterpreter C hI hw hl hk)
    · exact lv_tableIn (off := 383) (tgt := 416) hx hb dL_law_33 h1 h2 (by rw [ht]; rfl) (by decide) (lc_tire C hI hw hl hk)
    · exact lv_tableIn (off := 416) (tgt := 449) hx hb dL_law_33 h1 h2 (by rw [ht]; rfl) (by decide) (lc_carries C hI hw hl hk)
    · exact lv_tableIn (off := 469) (tgt := 502) hx hb dL_law_33 h1 h2 (by rw [ht]; rfl) (by decide) (lc_returns C hI hw hl hk)
    · exact lv_tableIn (off := 512) (tgt := 545) hx hb dL_law_33 h1 h2 (by rw [ht]; rfl) (by decide) (lc_hands C hI hw hl hk)
    · exact lv_tableIn (off := 612) (tgt := 645) hx hb dL_law_33 h1 h2 (by rw [ht]; rfl) (by decide) (lc_witness C hI hw hl hk)
    · exact lv_tableIn (off := 665) (tgt := 698) hx hb dL_law_33 h1 h2 (by rw [ht]; rfl) (by decide) (lc_answers C hI hw hl hk)
    · exact lv_tableIn (off := 698) (tgt := 731) hx hb dL_law_33 h1 h2 (by rw [ht]; rfl) (by decide) (lc_heard C hI hw hl hk)
    · exact lv_tableIn (off := 752) (tgt := 785) hx hb dL_law_33 h1 h2 (by rw [ht]; rfl) (by decide) (lc_reached C hI hw hl hk)
    · exact lv_tableIn (off := 806) (tgt := 839) hx hb dL_law_33 h1 h2 (by rw [ht]; rfl) (by decide) (lc_said C hI hw hl hk)
    · exact lv_tableIn (off := 860) (tgt := 893) hx hb dL_law_33 h1 h2 (by rw [ht]; rfl) (by decide) (lc_over C hI hw hl hk)
    · exact lv_tableIn (off := 904) (tgt := 937) hx hb dL_law_33 h1 h2 (by rw [ht]; rfl) (by decide) (lc_ask C hI hw hl hk)
    · exact lv_tableIn (off := 937) (tgt := 970) hx hb dL_law_33 h1 h2 (by rw [ht]; rfl) (by decide) (lc_turn C hI hw hl hk)
    · exact lv_tableIn (off := 1000) (tgt := 1033) hx hb dL_law_33 h1 h2 (by rw [ht]; rfl) (by decide) (lc_ofTurn C hI hw hl hk)
    · exact lv_tableIn (off := 1033) (tgt := 1066) hx hb dL_law_33 h1 h2 (by rw [ht]; rfl) (by decide) (lc_back C hI hw hl hk)
    · exact lv_tableIn (off := 1056) (tgt := 1089) hx hb dL_law_33 h1 h2 (by rw [ht]; rfl) (by decide) (lc_wrong C hI hw hl hk)
    · exact lv_tableIn (off := 1090) (tgt := 1123) hx hb dL_law_33 h1 h2 (by rw [ht]; rfl) (by decide) (lc_again C hI hw hl hk)
    · exact lv_tableIn (off := 1113) (tgt := 1146) hx hb dL_law_33 h1 h2 (by rw [ht]; rfl) (by decide) (lc_shifts C hI hw hl hk)
    · exact lv_tableIn (off := 1176) (tgt := 1209) hx hb dL_law_33 h1 h2 (by rw [ht]; rfl) (by decide) (lc_booth C hI hw hl hk)
    · exact lv_tableIn (off := 1239) (tgt := 1272) hx hb dL_law_33 h1 h2 (by rw [ht]; rfl) (by decide) (lc_sheet C hI hw hl hk)
    · exact lv_tableIn (off := 1282) (tgt := 1315) hx hb dL_law_33 h1 h2 (by rw [ht]; rfl) (by decide) (lc_lose C hI hw hl hk)
    · exact lv_tableIn (off := 1305) (tgt := 1338) hx hb dL_law_33 h1 h2 (by rw [ht]; rfl) (by decide) (lc_put C hI hw hl hk)
    · exact lv_tableIn (off := 1348) (tgt := 1381) hx hb dL_law_33 h1 h2 (by rw [ht]; rfl) (by decide) (lc_cell C hI hw hl hk)
    · exact lv_tableIn (off := 1392) (tgt := 1425) hx hb dL_law_33 h1 h2 (by rw [ht]; rfl) (by decide) (lc_copy C hI hw hl hk)
    · exact lv_tableIn (off := 1455) (tgt := 1488) hx hb dL_law_33 h1 h2 (by rw [ht]; rfl) (by decide) (lc_tell C hI hw hl hk)
    · exact lv_tableIn (off := 1478) (tgt := 1511) hx hb dL_law_33 h1 h2 (by rw [ht]; rfl) (by decide) (lc_pay C hI hw hl hk)
    · exact lv_tableIn (off := 1501) (tgt := 1534) hx hb dL_law_33 h1 h2 (by rw [ht]; rfl) (by decide) (lc_as C hI hw hl hk)
    · exact lv_tableIn (off := 1534) (tgt := 1567) hx hb dL_law_33 h1 h2 (by rw [ht]; rfl) (by decide) (lc_trace C hI hw hl hk)
    · exact lv_tableIn (off := 1547) (tgt := 1580) hx hb dL_law_33 h1 h2 (by rw [ht]; rfl) (by decide) (lc_fault C hI hw hl hk)
    · exact lv_tableIn (off := 1560) (tgt := 1593) hx hb dL_law_33 h1 h2 (by rw [ht]; rfl) (by decide) (lc_many C hI hw hl hk)
theorem lw_gt {i L : Nat} (hi : i < 2 ^ 31) (hL : L < 2 ^ 31) : nI L - 9 < nI i ↔ L < i + 9 := by
  rw [show (9 : Int32) = nI 9 from rfl, zsub_lt hL (by decide) hi]
set_option maxHeartbeats 4000000 in
set_option maxRecDepth 100000 in
theorem law_loop {p : Program} {l : Launch} {e : Env} {s : State} {m : MethodId} {below : List Frame} {meth : Method} {c : Code} {b L : Nat} {xs : Nat → Int32} {D : va_G} {g : zG} {ad0 ad1 : Nat → Nat} (hL : L ≤ 4608) (C0 : lw_At p s m meth c b L xs) (hK : va_K D vwCl (zT g) s) : ∀ (n i : Nat) (σ τ : zSt) (H : Heap) (locs : List Loc) (ls : Array Slot), L < i + n → i ≤ L + 9 → Inv σ τ → zL2 D g 0 ad0 (fun q => s.heap.size ≤ q) s.heap σ (zW g 1 ad1 τ) H locs → lv_has ls 4 [(0, .ref b), (1, .ref (ad0 0)), (2, .ref (ad1 0)), (3, .int (nI i))] → W p l e room_1 s m #[Value.ref b] below meth c H locs 101 14404 (lw_Z below #[Value.ref b] s) (F0 m 18 ls []) := by
  obtain ⟨hx, hb, hr, hml, hown, hts, hX, hbl, hlocks, hgv⟩ := id C0
  have hbA : ¬ (fun q : Nat => s.heap.size ≤ q) b := Nat.not_le.mpr hbl
  intro n
  induction n with
  | zero =>
    intro i σ τ H locs ls hn hi hI hw hl
    refine lv_iload_n hx hb dL_law_18 rfl (lv_at hl 3 rfl) ?_
    refine lv_aload_n hx hb dL_law_19 rfl (lv_at hl 0 rfl) ?_
    refine va_slen hx hb hX hbl hbA hw.2.2.2 dL_law_20 ?_
    refine lv_bipush (v := 9) hx hb dL_law_21 (by decide) ?_
    refine lv_isub hx hb dL_law_23 ?_
    refine lv_icmp_gt (tgt := 1622) hx hb dL_law_24 (by decide) (fun t => ?_) (fun t => absurd ((lw_gt (by omega) (by omega)).mpr (by omega)) t)
    refine lv_iconst (v := 1) hx hb dL_law_1622 (by decide) ?_
    refine va_forget hw.2.2.2.2.2 ?_
    refine W.widen (k := 600000) (n := 7302250) (Nat.le_of_ble_eq_true rfl) (Nat.le_of_ble_eq_true rfl) ?_
    exact lw_ret hx hb hr hlocks dL_law_1623
  | succ n ih =>
    intro i σ τ H locs ls hn hi hI hw hl
    refine lv_iload_n hx hb dL_law_18 rfl (lv_at hl 3 rfl) ?_
    refine lv_aload_n hx hb dL_law_19 rfl (lv_at hl 0 rfl) ?_
    refine va_slen hx hb hX hbl hbA hw.2.2.2 dL_law_20 ?_
    refine lv_bipush (v := 9) hx hb dL_law_21 (by decide) ?_
    refine lv_isub hx hb dL_law_23 ?_
    refine lv_icmp_gt (tgt := 1622) hx hb dL_law_24 (by decide) (fun t => ?_) (fun t => ?_)
    · refine lv_iconst (v := 1) hx hb dL_law_1622 (by decide) ?_
      refine va_forget hw.2.2.2.2.2 ?_
      refine W.widen (k := 600000) (n := 7302250) (Nat.le_of_ble_eq_true rfl) (Nat.le_of_ble_eq_true rfl) ?_
      exact lw_ret hx hb hr hlocks dL_law_1623
    · have h9 : i + 9 ≤ L := by
        rcases Nat.lt_or_ge L (i + 9) with q | q
        · exact absurd ((lw_gt (by omega) (by omega)).mpr q) t
        · exact q
      refine lv_aload_n hx hb dL_law_27 rfl (lv_at hl 0 rfl) ?_
      refine lv_iload_n hx hb dL_law_28 rfl (lv_at hl 3 rfl) ?_
      refine va_sld hx hb hX hbl hbA hw.2.2.2 (vp_in_nI (show i < L by omega) (by omega)) dL_law_29 ?_
      refine lv_bipush (v := 63) hx hb dL_law_30 (by decide) ?_
      refine lv_iand hx hb dL_law_32 ?_
      refine law_turn ⟨hx, hb, hml, hown, hts, hK, hX, hbl, h9, hL⟩ _ hI hw hl (fun σ τ H locs hI hw => ?_)
      refine lv_iinc (v := nI (i + 9)) (lv' := [(3, .int (nI (i + 9))), (0, .ref b), (1, .ref (ad0 0)), (2, .ref (ad1 0))]) hx hb dL_law_1616 hl (k := 3) rfl (nI_add i 9) (by decide) rfl (fun ls hl => ?_)
      refine lv_goto (tgt := 18) hx hb dL_law_1619 (by decide) ?_
      exact ih (i + 9) σ τ H locs ls (by omega) (by omega) hI hw (lv_sub hl [1, 2, 3, 0] rfl)
