/-! THE LAW'S CASES, by program -/
set_option maxHeartbeats 4000000 in
set_option maxRecDepth 100000 in
theorem lc_turn {p : Program} {l : Launch} {e : Env} {s : State} {m : MethodId} {below : List Frame} {meth : Method} {c : Code} {b L i : Nat} {xs : Nat → Int32} {D : va_G} {g : zG} {ad0 ad1 : Nat → Nat} {Q : State → Prop} (C : lwC p s m c b L i xs D g) {σ τ : zSt} {H : Heap} {locs : List Loc} {ls : Array Slot} (hI : Inv σ τ) (hw : zL2 D g 0 ad0 (fun q => s.heap.size ≤ q) s.heap σ (zW g 1 ad1 τ) H locs) (hl : lv_has ls 4 [(0, .ref b), (1, .ref (ad0 0)), (2, .ref (ad1 0)), (3, .int (nI i))]) (hk : ∀ (σ τ : zSt) (H : Heap) (locs : List Loc), Inv σ τ → zL2 D g 0 ad0 (fun q => s.heap.size ≤ q) s.heap σ (zW g 1 ad1 τ) H locs → W p l e room_1 s m #[.ref b] below meth c H locs 101 14404 Q (F0 m 1616 ls [])) : W p l e room_1 s m #[.ref b] below meth c H locs 101 14404 Q (F0 m 970 ls []) := by
  obtain ⟨hx, hb, hml, hown, hts, hK, hX, hbl, hi, hL⟩ := C
  have hA : ∀ q : Nat, s.heap.size ≤ q → (fun q : Nat => s.heap.size ≤ q) q := fun _ h => h
  have hbA : ¬ (fun q : Nat => s.heap.size ≤ q) b := Nat.not_le.mpr hbl
  have v1 := lw_in (a := 1) hi hL (by decide)
  have v2 := lw_in (a := 2) hi hL (by decide)
  have v3 := lw_in (a := 3) hi hL (by decide)
  have v4 := lw_in (a := 4) hi hL (by decide)
  have v5 := lw_in (a := 5) hi hL (by decide)
  obtain ⟨r, σ', τ', e1, e2, hI⟩ := q_turn hI (xs (nI i + nI 1).toNatClampNeg) (xs (nI i + nI 2).toNatClampNeg) (xs (nI i + nI 3).toNatClampNeg) (xs (nI i + nI 4).toNatClampNeg) (xs (nI i + nI 5).toNatClampNeg)
  refine lv_aload_n hx hb dL_law_970 rfl (lv_at hl 1 rfl) ?_
  refine lv_aload_n hx hb dL_law_971 rfl (lv_at hl 0 rfl) ?_
  refine lv_iload_n hx hb dL_law_972 rfl (lv_at hl 3 rfl) ?_
  refine lv_iconst (v := nI 1) hx hb dL_law_973 (by decide) ?_
  refine lv_iadd hx hb dL_law_974 ?_
  refine va_sld hx hb hX hbl hbA hw.2.2.2 v1 dL_law_975 ?_
  refine lv_aload_n hx hb dL_law_976 rfl (lv_at hl 0 rfl) ?_
  refine lv_iload_n hx hb dL_law_977 rfl (lv_at hl 3 rfl) ?_
  refine lv_iconst (v := nI 2) hx hb dL_law_978 (by decide) ?_
  refine lv_iadd hx hb dL_law_979 ?_
  refine va_sld hx hb hX hbl hbA hw.2.2.2 v2 dL_law_980 ?_
  refine lv_aload_n hx hb dL_law_981 rfl (lv_at hl 0 rfl) ?_
  refine lv_iload_n hx hb dL_law_982 rfl (lv_at hl 3 rfl) ?_
  refine lv_iconst (v := nI 3) hx hb dL_law_983 (by decide) ?_
  refine lv_iadd hx hb dL_law_984 ?_
  refine va_sld hx hb hX hbl hbA hw.2.2.2 v3 dL_law_985 ?_
  refine lv_aload_n hx hb dL_law_986 rfl (lv_at hl 0 rfl) ?_
  refine lv_iload_n hx hb dL_law_987 rfl (lv_at hl 3 rfl) ?_
  refine lv_iconst (v := nI 4) hx hb dL_law_988 (by decide) ?_
  refine lv_iadd hx hb dL_law_989 ?_
  refine va_sld hx hb hX hbl hbA hw.2.2.2 v4 dL_law_990 ?_
  refine lv_aload_n hx hb dL_law_991 rfl (lv_at hl 0 rfl) ?_
  refine lv_iload_n hx hb dL_law_992 rfl (lv_at hl 3 rfl) ?_
  refine lv_iconst (v := nI 5) hx hb dL_law_993 (by decide) ?_
  refine lv_iadd hx hb dL_law_994 ?_
  refine va_sld hx hb hX hbl hbA hw.2.2.2 v5 dL_law_995 ?_
  refine z_l2i (b := 0) (As := [.int (xs (nI i + nI 1).toNatClampNeg), .int (xs (nI i + nI 2).toNatClampNeg), .int (xs (nI i + nI 3).toNatClampNeg), .int (xs (nI i + nI 4).toNatClampNeg), .int (xs (nI i + nI 5).toNatClampNeg)]) (rest := []) ⟨hx, hb, hml, hown, hts⟩ hK hw hA (kX10_turn l D g ad0 σ (xs (nI i + nI 1).toNatClampNeg) (xs (nI i + nI 2).toNatClampNeg) (xs (nI i + nI 3).toNatClampNeg) (xs (nI i + nI 4).toNatClampNeg) (xs (nI i + nI 5).toNatClampNeg) (r, σ') e1) (zcwV 5 hts zgoodTbl zw_610 zw_611 zw_612 zw_52 zw_613 rfl rfl hX10_turn ⟨Nat.le_of_ble_eq_true rfl, Nat.le_of_ble_eq_true rfl⟩) zO0_0 rfl hl.1 rfl (Nat.le_of_ble_eq_true rfl) dL_law_996 ⟨Nat.le_of_ble_eq_true rfl, Nat.le_of_ble_eq_true rfl⟩ (fun H locs hw => ?_)
  have hw := hw.flip
  refine lv_aload_n hx hb dL_law_999 rfl (lv_at hl 2 rfl) ?_
  refine lv_aload_n hx hb dL_law_1000 rfl (lv_at hl 0 rfl) ?_
  refine lv_iload_n hx hb dL_law_1001 rfl (lv_at hl 3 rfl) ?_
  refine lv_iconst (v := nI 1) hx hb dL_law_1002 (by decide) ?_
  refine lv_iadd hx hb dL_law_1003 ?_
  refine va_sld hx hb hX hbl hbA hw.2.2.2 v1 dL_law_1004 ?_
  refine lv_aload_n hx hb dL_law_1005 rfl (lv_at hl 0 rfl) ?_
  refine lv_iload_n hx hb dL_law_1006 rfl (lv_at hl 3 rfl) ?_
  refine lv_iconst (v := nI 2) hx hb dL_law_1007 (by decide) ?_
  refine lv_iadd hx hb dL_law_1008 ?_
  refine va_sld hx hb hX hbl hbA hw.2.2.2 v2 dL_law_1009 ?_
  refine lv_aload_n hx hb dL_law_1010 rfl (lv_at hl 0 rfl) ?_
  refine lv_iload_n hx hb dL_law_1011 rfl (lv_at hl 3 rfl) ?_
  refine lv_iconst (v := nI 3) hx hb dL_law_1012 (by decide) ?_
  refine lv_iadd hx hb dL_law_1013 ?_
  refine va_sld hx hb hX hbl hbA hw.2.2.2 v3 dL_law_1014 ?_
  refine lv_aload_n hx hb dL_law_1015 rfl (lv_at hl 0 rfl) ?_
  refine lv_iload_n hx hb dL_law_1016 rfl (lv_at hl 3 rfl) ?_
  refine lv_iconst (v := nI 4) hx hb dL_law_1017 (by decide) ?_
  refine lv_iadd hx hb dL_law_1018 ?_
  refine va_sld hx hb hX hbl hbA hw.2.2.2 v4 dL_law_1019 ?_
  refine lv_aload_n hx hb dL_law_1020 rfl (lv_at hl 0 rfl) ?_
  refine lv_iload_n hx hb dL_law_1021 rfl (lv_at hl 3 rfl) ?_
  refine lv_iconst (v := nI 5) hx hb dL_law_1022 (by decide) ?_
  refine lv_iadd hx hb dL_law_1023 ?_
  refine va_sld hx hb hX hbl hbA hw.2.2.2 v5 dL_law_1024 ?_
  refine z_l2i (b := 0) (As := [.int (xs (nI i + nI 1).toNatClampNeg), .int (xs (nI i + nI 2).toNatClampNeg), .int (xs (nI i + nI 3).toNatClampNeg), .int (xs (nI i + nI 4).toNatClampNeg), .int (xs (nI i + nI 5).toNatClampNeg)]) (rest := [_]) ⟨hx, hb, hml, hown, hts⟩ hK hw hA (kX11_turn l D g ad1 τ (xs (nI i + nI 1).toNatClampNeg) (xs (nI i + nI 2).toNatClampNeg) (xs (nI i + nI 3).toNatClampNeg) (xs (nI i + nI 4).toNatClampNeg) (xs (nI i + nI 5).toNatClampNeg) (r, τ') e2) (zcwV 5 hts zgoodTbl zw_1106 zw_1107 zw_1108 zw_64 zw_1109 rfl rfl hX11_turn ⟨Nat.le_of_ble_eq_true rfl, Nat.le_of_ble_eq_true rfl⟩) zO1_0 rfl hl.1 rfl (Nat.le_of_ble_eq_true rfl) dL_law_1025 ⟨Nat.le_of_ble_eq_true rfl, Nat.le_of_ble_eq_true rfl⟩ (fun H locs hw => ?_)
  have hw := hw.flip
  refine lv_icmp_eq (tgt := 1616) hx hb dL_law_1028 (by decide) (fun _ => ?_) (fun h => absurd rfl h)
  exact hk _ _ _ _ hI hw
set_option maxHeartbeats 4000000 in
set_option maxRecDepth 100000 in
theorem lc_ofTurn {p : Program} {l : Launch} {e : Env} {s : State} {m : MethodId} {below : List Frame} {meth : Method} {c : Code} {b L i : Nat} {xs : Nat → Int32} {D : va_G} {g : zG} {ad0 ad1 : Nat → Nat} {Q : State → Prop} (C : lwC p s m c b L i xs D g) {σ τ : zSt} {H : Heap} {locs : List Loc} {ls : Array Slot} (hI : Inv σ τ) (hw : zL2 D g 0 ad0 (fun q => s.heap.size ≤ q) s.heap σ (zW g 1 ad1 τ) H locs) (hl : lv_has ls 4 [(0, .ref b), (1, .ref (ad0 0)), (2, .ref (ad1 0)), (3, .int (nI i))]) (hk : ∀ (σ τ : zSt) (H : Heap) (locs : List Loc), Inv σ τ → zL2 D g 0 ad0 (fun q => s.heap.size ≤ q) s.heap σ (zW g 1 ad1 τ) H locs → W p l e room_1 s m #[.ref b] below meth c H locs 101 14404 Q (F0 m 1616 ls [])) : W p l e room_1 s m #[.ref b] below meth c H locs 101 14404 Q (F0 m 1033 ls []) := by
  obtain ⟨hx, hb, hml, hown, hts, hK, hX, hbl, hi, hL⟩ := C
  have hA : ∀ q : Nat, s.heap.size ≤ q → (fun q : Nat => s.heap.size ≤ q) q := fun _ h => h
  have hbA : ¬ (fun q : Nat => s.heap.size ≤ q) b := Nat.not_le.mpr hbl
  have v1 := lw_in (a := 1) hi hL (by decide)
  have v2 := lw_in (a := 2) hi hL (by decide)
  obtain ⟨r, e1, e2⟩ := q_ofTurn hI (xs (nI i + nI 1).toNatClampNeg) (xs (nI i + nI 2).toNatClampNeg)
  refine lv_aload_n hx hb dL_law_1033 rfl (lv_at hl 1 rfl) ?_
  refine lv_aload_n hx hb dL_law_1034 rfl (lv_at hl 0 rfl) ?_
  refine lv_iload_n hx hb dL_law_1035 rfl (lv_at hl 3 rfl) ?_
  refine lv_iconst (v := nI 1) hx hb dL_law_1036 (by decide) ?_
  refine lv_iadd hx hb dL_law_1037 ?_
  refine va_sld hx hb hX hbl hbA hw.2.2.2 v1 dL_law_1038 ?_
  refine lv_aload_n hx hb dL_law_1039 rfl (lv_at hl 0 rfl) ?_
  refine lv_iload_n hx hb dL_law_1040 rfl (lv_at hl 3 rfl) ?_
  refine lv_iconst (v := nI 2) hx hb dL_law_1041 (by decide) ?_
  refine lv_iadd hx hb dL_law_1042 ?_
  refine va_sld hx hb hX hbl hbA hw.2.2.2 v2 dL_law_1043 ?_
  refine z_l2i (b := 0) (As := [.int (xs (nI i + nI 1).toNatClampNeg), .int (xs (nI i + nI 2).toNatClampNeg)]) (rest := []) ⟨hx, hb, hml, hown, hts⟩ hK hw hA (kX10_ofTurn l D g ad0 σ (xs (nI i + nI 1).toNatClampNeg) (xs (nI i + nI 2).toNatClampNeg) r e1) (zcwV 2 hts zgoodTbl zw_632 zw_633 zw_634 zw_52 zw_635 rfl rfl hX10_ofTurn ⟨Nat.le_of_ble_eq_true rfl, Nat.le_of_ble_eq_true rfl⟩) zO0_0 rfl hl.1 rfl (Nat.le_of_ble_eq_true rfl) dL_law_1044 ⟨Nat.le_of_ble_eq_true rfl, Nat.le_of_ble_eq_true rfl⟩ (fun H locs hw => ?_)
  have hw := hw.flip
  refine lv_aload_n hx hb dL_law_1047 rfl (lv_at hl 2 rfl) ?_
  refine lv_aload_n hx hb dL_law_1048 rfl (lv_at hl 0 rfl) ?_
  refine lv_iload_n hx hb dL_law_1049 rfl (lv_at hl 3 rfl) ?_
  refine lv_iconst (v := nI 1) hx hb dL_law_1050 (by decide) ?_
  refine lv_iadd hx hb dL_law_1051 ?_
  refine va_sld hx hb hX hbl hbA hw.2.2.2 v1 dL_law_1052 ?_
  refine lv_aload_n hx hb dL_law_1053 rfl (lv_at hl 0 rfl) ?_
  refine lv_iload_n hx hb dL_law_1054 rfl (lv_at hl 3 rfl) ?_
  refine lv_iconst (v := nI 2) hx hb dL_law_1055 (by decide) ?_
  refine lv_iadd hx hb dL_law_1056 ?_
  refine va_sld hx hb hX hbl hbA hw.2.2.2 v2 dL_law_1057 ?_
  refine z_l2i (b := 0) (As := [.int (xs (nI i + nI 1).toNatClampNeg), .int (xs (nI i + nI 2).toNatClampNeg)]) (rest := [_]) ⟨hx, hb, hml, hown, hts⟩ hK hw hA (kX11_ofTurn l D g ad1 τ (xs (nI i + nI 1).toNatClampNeg) (xs (nI i + nI 2).toNatClampNeg) r e2) (zcwV 2 hts zgoodTbl zw_1110 zw_1111 zw_1112 zw_64 zw_1113 rfl rfl hX11_ofTurn ⟨Nat.le_of_ble_eq_true rfl, Nat.le_of_ble_eq_true rfl⟩) zO1_0 rfl hl.1 rfl (Nat.le_of_ble_eq_true rfl) dL_law_1058 ⟨Nat.le_of_ble_eq_true rfl, Nat.le_of_ble_eq_true rfl⟩ (fun H locs hw => ?_)
  have hw := hw.flip
  refine lv_icmp_eq (tgt := 1616) hx hb dL_law_1061 (by decide) (fun _ => ?_) (fun h => absurd rfl h)
  exact hk _ _ _ _ hI hw
set_option maxHeartbeats 4000000 in
set_option maxRecDepth 100000 in
theorem lc_back {p : Program} {l : Launch} {e : Env} {s : State} {m : MethodId} {below : List Frame} {meth : Method} {c : Code} {b L i : Nat} {xs : Nat → Int32} {D : va_G} {g : zG} {ad0 ad1 : Nat → Nat} {Q : State → Prop} (C : lwC p s m c b L i xs D g) {σ τ : zSt} {H : Heap} {locs : List Loc} {ls : Array Slot} (hI : Inv σ τ) (hw : zL2 D g 0 ad0 (fun q => s.heap.size ≤ q) s.heap σ (zW g 1 ad1 τ) H locs) (hl : lv_has ls 4 [(0, .ref b), (1, .ref (ad0 0)), (2, .ref (ad1 0)), (3, .int (nI i))]) (hk : ∀ (σ τ : zSt) (H : Heap) (locs : List Loc), Inv σ τ → zL2 D g 0 ad0 (fun q => s.heap.size ≤ q) s.heap σ (zW g 1 ad1 τ) H locs → W p l e room_1 s m #[.ref b] below meth c H locs 101 14404 Q (F0 m 1616 ls [])) : W p l e room_1 s m #[.ref b] below meth c H locs 101 14404 Q (F0 m 1066 ls []) := by
  obtain ⟨hx, hb, hml, hown, hts, hK, hX, hbl, hi, hL⟩ := C
  have hA : ∀ q : Nat, s.heap.size ≤ q → (fun q : Nat => s.heap.size ≤ q) q := fun _ h => h
  have hbA : ¬ (fun q : Nat => s.heap.size ≤ q) b := Nat.not_le.mpr hbl
  have v1 := lw_in (a := 1) hi hL (by decide)
  obtain ⟨e1, hI⟩ := q_back hI (xs (nI i + nI 1).toNatClampNeg)
  refine lv_aload_n hx hb dL_law_1066 rfl (lv_at hl 1 rfl) ?_
  refine lv_aload_n hx hb dL_law_1067 rfl (lv_at hl 0 rfl) ?_
  refine lv_iload_n hx hb dL_law_1068 rfl (lv_at hl 3 rfl) ?_
  refine lv_iconst (v := nI 1) hx hb dL_law_1069 (by decide) ?_
  refine lv_iadd hx hb dL_law_1070 ?_
  refine va_sld hx hb hX hbl hbA hw.2.2.2 v1 dL_law_1071 ?_
  refine z_l2i (b := 0) (As := [.int (xs (nI i + nI 1).toNatClampNeg)]) (rest := []) ⟨hx, hb, hml, hown, hts⟩ hK hw hA (kX10_back l D g ad0 σ (xs (nI i + nI 1).toNatClampNeg) _ rfl) (zcwV 1 hts zgoodTbl zw_636 zw_637 zw_638 zw_52 zw_639 rfl rfl hX10_back ⟨Nat.le_of_ble_eq_true rfl, Nat.le_of_ble_eq_true rfl⟩) zO0_0 rfl hl.1 rfl (Nat.le_of_ble_eq_true rfl) dL_law_1072 ⟨Nat.le_of_ble_eq_true rfl, Nat.le_of_ble_eq_true rfl⟩ (fun H locs hw => ?_)
  have hw := hw.flip
  refine lv_aload_n hx hb dL_law_1075 rfl (lv_at hl 2 rfl) ?_
  refine lv_aload_n hx hb dL_law_1076 rfl (lv_at hl 0 rfl) ?_
  refine lv_iload_n hx hb dL_law_1077 rfl (lv_at hl 3 rfl) ?_
  refine lv_iconst (v := nI 1) hx hb dL_law_1078 (by decide) ?_
  refine lv_iadd hx hb dL_law_1079 ?_
  refine va_sld hx hb hX hbl hbA hw.2.2.2 v1 dL_law_1080 ?_
  refine z_l2i (b := 0) (As := [.int (xs (nI i + nI 1).toNatClampNeg)]) (rest := [_]) ⟨hx, hb, hml, hown, hts⟩ hK hw hA (kX11_back l D g ad1 τ (xs (nI i + nI 1).toNatClampNeg) _ rfl) (zcwV 1 hts zgoodTbl zw_1119 zw_1120 zw_1121 zw_64 zw_1122 rfl rfl hX11_back ⟨Nat.le_of_ble_eq_true rfl, Nat.le_of_ble_eq_true rfl⟩) zO1_0 rfl hl.1 rfl (Nat.le_of_ble_eq_true rfl) dL_law_1081 ⟨Nat.le_of_ble_eq_true rfl, Nat.le_of_ble_eq_true rfl⟩ (fun H locs hw => ?_)
  have hw := hw.flip
  refine lv_icmp_eq (tgt := 1616) hx hb dL_law_1084 (by decide) (fun _ => ?_) (fun h => absurd e1 h)
  exact hk _ _ _ _ hI hw
set_option maxHeartbeats 4000000 in
set_option maxRecDepth 100000 in
theorem lc_wrong {p : Program} {l : Launch} {e : Env} {s : State} {m : MethodId} {below : List Frame} {meth : Method} {c : Code} {b L i : Nat} {xs : Nat → Int32} {D : va_G} {g : zG} {ad0 ad1 : Nat → Nat} {Q : State → Prop} (C : lwC p s m c b L i xs D g) {σ τ : zSt} {H : Heap} {locs : List Loc} {ls : Array Slot} (hI : Inv σ τ) (hw : zL2 D g 0 ad0 (fun q => s.heap.size ≤ q) s.heap σ (zW g 1 ad1 τ) H locs) (hl : lv_has ls 4 [(0, .ref b), (1, .ref (ad0 0)), (2, .ref (ad1 0)), (3, .int (nI i))]) (hk : ∀ (σ τ : zSt) (H : Heap) (locs : List Loc), Inv σ τ → zL2 D g 0 ad0 (fun q => s.heap.size ≤ q) s.heap σ (zW g 1 ad1 τ) H locs → W p l e room_1 s m #[.ref b] below meth c H locs 101 14404 Q (F0 m 1616 ls [])) : W p l e room_1 s m #[.ref b] below meth c H locs 101 14404 Q (F0 m 1089 ls []) := by
  obtain ⟨hx, hb, hml, hown, hts, hK, hX, hbl, hi, hL⟩ := C
  have hA : ∀ q : Nat, s.heap.size ≤ q → (fun q : Nat => s.heap.size ≤ q) q := fun _ h => h
  have hbA : ¬ (fun q : Nat => s.heap.size ≤ q) b := Nat.not_le.mpr hbl
  have v1 := lw_in (a := 1) hi hL (by decide)
  have v2 := lw_in (a := 2) hi hL (by decide)
  obtain ⟨r, σ', τ', e1, e2, hI⟩ := q_wrong hI (xs (nI i + nI 1).toNatClampNeg) (xs (nI i + nI 2).toNatClampNeg)
  refine lv_aload_n hx hb dL_law_1089 rfl (lv_at hl 1 rfl) ?_
  refine lv_aload_n hx hb dL_law_1090 rfl (lv_at hl 0 rfl) ?_
  refine lv_iload_n hx hb dL_law_1091 rfl (lv_at hl 3 rfl) ?_
  refine lv_iconst (v := nI 1) hx hb dL_law_1092 (by decide) ?_
  refine lv_iadd hx hb dL_law_1093 ?_
  refine va_sld hx hb hX hbl hbA hw.2.2.2 v1 dL_law_1094 ?_
  refine lv_aload_n hx hb dL_law_1095 rfl (lv_at hl 0 rfl) ?_
  refine lv_iload_n hx hb dL_law_1096 rfl (lv_at hl 3 rfl) ?_
  refine lv_iconst (v := nI 2) hx hb dL_law_1097 (by decide) ?_
  refine lv_iadd hx hb dL_law_1098 ?_
  refine va_sld hx hb hX hbl hbA hw.2.2.2 v2 dL_law_1099 ?_
  refine z_l2l (b := 0) (As := [.int (xs (nI i + nI 1).toNatClampNeg), .int (xs (nI i + nI 2).toNatClampNeg)]) (rest := []) ⟨hx, hb, hml, hown, hts⟩ hK hw hA (kX10_wrong l D g ad0 σ (xs (nI i + nI 1).toNatClampNeg) (xs (nI i + nI 2).toNatClampNeg) (r, σ') e1) (zcwV 2 hts zgoodTbl zw_640 zw_641 zw_642 zw_52 zw_643 rfl rfl hX10_wrong ⟨Nat.le_of_ble_eq_true rfl, Nat.le_of_ble_eq_true rfl⟩) zO0_0 rfl hl.1 rfl (Nat.le_of_ble_eq_true rfl) dL_law_1100 ⟨Nat.le_of_ble_eq_true rfl, Nat.le_of_ble_eq_true rfl⟩ (fun H locs hw => ?_)
  have hw := hw.flip
  refine lv_aload_n hx hb dL_law_1103 rfl (lv_at hl 2 rfl) ?_
  refine lv_aload_n hx hb dL_law_1104 rfl (lv_at hl 0 rfl) ?_
  refine lv_iload_n hx hb dL_law_1105 rfl (lv_at hl 3 rfl) ?_
  refine lv_iconst (v := nI 1) hx hb dL_law_1106 (by decide) ?_
  refine lv_iadd hx hb dL_law_1107 ?_
  refine va_sld hx hb hX hbl hbA hw.2.2.2 v1 dL_law_1108 ?_
  refine lv_aload_n hx hb dL_law_1109 rfl (lv_at hl 0 rfl) ?_
  refine lv_iload_n hx hb dL_law_1110 rfl (lv_at hl 3 rfl) ?_
  refine lv_iconst (v := nI 2) hx hb dL_law_1111 (by decide) ?_
  refine lv_iadd hx hb dL_law_1112 ?_
  refine va_sld hx hb hX hbl hbA hw.2.2.2 v2 dL_law_1113 ?_
  refine z_l2l (b := 0) (As := [.int (xs (nI i + nI 1).toNatClampNeg), .int (xs (nI i + nI 2).toNatClampNeg)]) (rest := [_]) ⟨hx, hb, hml, hown, hts⟩ hK hw hA (kX11_wrong l D g ad1 τ (xs (nI i + nI 1).toNatClampNeg) (xs (nI i + nI 2).toNatClampNeg) (r, τ') e2) (zcwV 2 hts zgoodTbl zw_1123 zw_1124 zw_1125 zw_64 zw_1126 rfl rfl hX11_wrong ⟨Nat.le_of_ble_eq_true rfl, Nat.le_of_ble_eq_true rfl⟩) zO1_0 rfl hl.1 rfl (Nat.le_of_ble_eq_true rfl) dL_law_1114 ⟨Nat.le_of_ble_eq_true rfl, Nat.le_of_ble_eq_true rfl⟩ (fun H locs hw => ?_)
  have hw := hw.flip
  refine z_lceq (tgt := 1616) hx hb dL_law_1117 dL_law_1118 (by decide) (fun _ => ?_) (fun h => absurd rfl h)
  exact hk _ _ _ _ hI hw
set_option maxHeartbeats 4000000 in
set_option maxRecDepth 100000 in
theorem lc_again {p : Program} {l : Launch} {e : Env} {s : State} {m : MethodId} {below : List Frame} {meth : Method} {c : Code} {b L i : Nat} {xs : Nat → Int32} {D : va_G} {g : zG} {ad0 ad1 : Nat → Nat} {Q : State → Prop} (C : lwC p s m c b L i xs D g) {σ τ : zSt} {H : Heap} {locs : List Loc} {ls : Array Slot} (hI : Inv σ τ) (hw : zL2 D g 0 ad0 (fun q => s.heap.size ≤ q) s.heap σ (zW g 1 ad1 τ) H locs) (hl : lv_has ls 4 [(0, .ref b), (1, .ref (ad0 0)), (2, .ref (ad1 0)), (3, .int (nI i))]) (hk : ∀ (σ τ : zSt) (H : Heap) (locs : List Loc), Inv σ τ → zL2 D g 0 ad0 (fun q => s.heap.size ≤ q) s.heap σ (zW g 1 ad1 τ) H locs → W p l e room_1 s m #[.ref b] below meth c H locs 101 14404 Q (F0 m 1616 ls [])) : W p l e room_1 s m #[.ref b] below meth c H locs 101 14404 Q (F0 m 1123 ls []) := by
  obtain ⟨hx, hb, hml, hown, hts, hK, hX, hbl, hi, hL⟩ := C
  have hA : ∀ q : Nat, s.heap.size ≤ q → (fun q : Nat => s.heap.size ≤ q) q := fun _ h => h
  have hbA : ¬ (fun q : Nat => s.heap.size ≤ q) b := Nat.not_le.mpr hbl
  have v1 := lw_in (a := 1) hi hL (by decide)
  obtain ⟨r, e1, e2⟩ := q_again hI (xs (nI i + nI 1).toNatClampNeg)
  refine lv_aload_n hx hb dL_law_1123 rfl (lv_at hl 1 rfl) ?_
  refine lv_aload_n hx hb dL_law_1124 rfl (lv_at hl 0 rfl) ?_
  refine lv_iload_n hx hb dL_law_1125 rfl (lv_at hl 3 rfl) ?_
  refine lv_iconst (v := nI 1) hx hb dL_law_1126 (by decide) ?_
  refine lv_iadd hx hb dL_law_1127 ?_
  refine va_sld hx hb hX hbl hbA hw.2.2.2 v1 dL_law_1128 ?_
  refine z_l2i (b := 0) (As := [.int (xs (nI i + nI 1).toNatClampNeg)]) (rest := []) ⟨hx, hb, hml, hown, hts⟩ hK hw hA (kX10_again l D g ad0 σ (xs (nI i + nI 1).toNatClampNeg) r e1) (zcwV 1 hts zgoodTbl zw_658 zw_659 zw_660 zw_52 zw_661 rfl rfl hX10_again ⟨Nat.le_of_ble_eq_true rfl, Nat.le_of_ble_eq_true rfl⟩) zO0_0 rfl hl.1 rfl (Nat.le_of_ble_eq_true rfl) dL_law_1129 ⟨Nat.le_of_ble_eq_true rfl, Nat.le_of_ble_eq_true rfl⟩ (fun H locs hw => ?_)
  have hw := hw.flip
  refine lv_aload_n hx hb dL_law_1132 rfl (lv_at hl 2 rfl) ?_
  refine lv_aload_n hx hb dL_law_1133 rfl (lv_at hl 0 rfl) ?_
  refine lv_iload_n hx hb dL_law_1134 rfl (lv_at hl 3 rfl) ?_
  refine lv_iconst (v := nI 1) hx hb dL_law_1135 (by decide) ?_
  refine lv_iadd hx hb dL_law_1136 ?_
  refine va_sld hx hb hX hbl hbA hw.2.2.2 v1 dL_law_1137 ?_
  refine z_l2i (b := 0) (As := [.int (xs (nI i + nI 1).toNatClampNeg)]) (rest := [_]) ⟨hx, hb, hml, hown, hts⟩ hK hw hA (kX11_again l D g ad1 τ (xs (nI i + nI 1).toNatClampNeg) r e2) (zcwV 1 hts zgoodTbl zw_1127 zw_1128 zw_1129 zw_64 zw_1130 rfl rfl hX11_again ⟨Nat.le_of_ble_eq_true rfl, Nat.le_of_ble_eq_true rfl⟩) zO1_0 rfl hl.1 rfl (Nat.le_of_ble_eq_true rfl) dL_law_1138 ⟨Nat.le_of_ble_eq_true rfl, Nat.le_of_ble_eq_true rfl⟩ (fun H locs hw => ?_)
  have hw := hw.flip
  refine lv_icmp_eq (tgt := 1616) hx hb dL_law_1141 (by decide) (fun _ => ?_) (fun h => absurd rfl h)
  exact hk _ _ _ _ hI hw
set_option maxHeartbeats 4000000 in
set_option maxRecDepth 100000 in
theorem lc_shifts {p : Program} {l : Launch} {e : Env} {s : State} {m : MethodId} {below : List Frame} {meth : Method} {c : Code} {b L i : Nat} {xs : Nat → Int32} {D : va_G} {g : zG} {ad0 ad1 : Nat → Nat} {Q : State → Prop} (C : lwC p s m c b L i xs D g) {σ τ : zSt} {H : Heap} {locs : List Loc} {ls : Array Slot} (hI : Inv σ τ) (hw : zL2 D g 0 ad0 (fun q => s.heap.size ≤ q) s.heap σ (zW g 1 ad1 τ) H locs) (hl : lv_has ls 4 [(0, .ref b), (1, .ref (ad0 0)), (2, .ref (ad1 0)), (3, .int (nI i))]) (hk : ∀ (σ τ : zSt) (H : Heap) (locs : List Loc), Inv σ τ → zL2 D g 0 ad0 (fun q => s.heap.size ≤ q) s.heap σ (zW g 1 ad1 τ) H locs → W p l e room_1 s m #[.ref b] below meth c H locs 101 14404 Q (F0 m 1616 ls [])) : W p l e room_1 s m #[.ref b] below meth c H locs 101 14404 Q (F0 m 1146 ls []) := by
  obtain ⟨hx, hb, hml, hown, hts, hK, hX, hbl, hi, hL⟩ := C
  have hA : ∀ q : Nat, s.heap.size ≤ q → (fun q : Nat => s.heap.size ≤ q) q := fun _ h => h
  have hbA : ¬ (fun q : Nat => s.heap.size ≤ q) b := Nat.not_le.mpr hbl
  have v1 := lw_in (a := 1) hi hL (by decide)
  have v2 := lw_in (a := 2) hi hL (by decide)
  have v3 := lw_in (a := 3) hi hL (by decide)
  have v4 := lw_in (a := 4) hi hL (by decide)
  have v5 := lw_in (a := 5) hi hL (by decide)
  obtain ⟨r, σ', τ', e1, e2, hI⟩ := q_shifts hI (xs (nI i + nI 1).toNatClampNeg) (xs (nI i + nI 2).toNatClampNeg) (xs (nI i + nI 3).toNatClampNeg) (xs (nI i + nI 4).toNatClampNeg) (xs (nI i + nI 5).toNatClampNeg)
  refine lv_aload_n hx hb dL_law_1146 rfl (lv_at hl 1 rfl) ?_
  refine lv_aload_n hx hb dL_law_1147 rfl (lv_at hl 0 rfl) ?_
  refine lv_iload_n hx hb dL_law_1148 rfl (lv_at hl 3 rfl) ?_
  refine lv_iconst (v := nI 1) hx hb dL_law_1149 (by decide) ?_
  refine lv_iadd hx hb dL_law_1150 ?_
  refine va_sld hx hb hX hbl hbA hw.2.2.2 v1 dL_law_1151 ?_
  refine lv_aload_n hx hb dL_law_1152 rfl (lv_at hl 0 rfl) ?_
  refine lv_iload_n hx hb dL_law_1153 rfl (lv_at hl 3 rfl) ?_
  refine lv_iconst (v := nI 2) hx hb dL_law_1154 (by decide) ?_
  refine lv_iadd hx hb dL_law_1155 ?_
  refine va_sld hx hb hX hbl hbA hw.2.2.2 v2 dL_law_1156 ?_
  refine lv_aload_n hx hb dL_law_1157 rfl (lv_at hl 0 rfl) ?_
  refine lv_iload_n hx hb dL_law_1158 rfl (lv_at hl 3 rfl) ?_
  refine lv_iconst (v := nI 3) hx hb dL_law_1159 (by decide) ?_
  refine lv_iadd hx hb dL_law_1160 ?_
  refine va_sld hx hb hX hbl hbA hw.2.2.2 v3 dL_law_1161 ?_
  refine lv_aload_n hx hb dL_law_1162 rfl (lv_at hl 0 rfl) ?_
  refine lv_iload_n hx hb dL_law_1163 rfl (lv_at hl 3 rfl) ?_
  refine lv_iconst (v := nI 4) hx hb dL_law_1164 (by decide) ?_
  refine lv_iadd hx hb dL_law_1165 ?_
  refine va_sld hx hb hX hbl hbA hw.2.2.2 v4 dL_law_1166 ?_
  refine lv_aload_n hx hb dL_law_1167 rfl (lv_at hl 0 rfl) ?_
  refine lv_iload_n hx hb dL_law_1168 rfl (lv_at hl 3 rfl) ?_
  refine lv_iconst (v := nI 5) hx hb dL_law_1169 (by decide) ?_
  refine lv_iadd hx hb dL_law_1170 ?_
  refine va_sld hx hb hX hbl hbA hw.2.2.2 v5 dL_law_1171 ?_
  refine z_l2i (b := 0) (As := [.int (xs (nI i + nI 1).toNatClampNeg), .int (xs (nI i + nI 2).toNatClampNeg), .int (xs (nI i + nI 3).toNatClampNeg), .int (xs (nI i + nI 4).toNatClampNeg), .int (xs (nI i + nI 5).toNatClampNeg)]) (rest := []) ⟨hx, hb, hml, hown, hts⟩ hK hw hA (kX10_shifts l D g ad0 σ (xs (nI i + nI 1).toNatClampNeg) (xs (nI i + nI 2).toNatClampNeg) (xs (nI i + nI 3).toNatClampNeg) (xs (nI i + nI 4).toNatClampNeg) (xs (nI i + nI 5).toNatClampNeg) (r, σ') e1) (zcwV 5 hts zgoodTbl zw_678 zw_679 zw_680 zw_52 zw_681 rfl rfl hX10_shifts ⟨Nat.le_of_ble_eq_true rfl, Nat.le_of_ble_eq_true rfl⟩) zO0_0 rfl hl.1 rfl (Nat.le_of_ble_eq_true rfl) dL_law_1172 ⟨Nat.le_of_ble_eq_true rfl, Nat.le_of_ble_eq_true rfl⟩ (fun H locs hw => ?_)
  have hw := hw.flip
  refine lv_aload_n hx hb dL_law_1175 rfl (lv_at hl 2 rfl) ?_
  refine lv_aload_n hx hb dL_law_1176 rfl (lv_at hl 0 rfl) ?_
  refine lv_iload_n hx hb dL_law_1177 rfl (lv_at hl 3 rfl) ?_
  refine lv_iconst (v := nI 1) hx hb dL_law_1178 (by decide) ?_
  refine lv_iadd hx hb dL_law_1179 ?_
  refine va_sld hx hb hX hbl hbA hw.2.2.2 v1 dL_law_1180 ?_
  refine lv_aload_n hx hb dL_law_1181 rfl (lv_at hl 0 rfl) ?_
  refine lv_iload_n hx hb dL_law_1182 rfl (lv_at hl 3 rfl) ?_
  refine lv_iconst (v := nI 2) hx hb dL_law_1183 (by decide) ?_
  refine lv_iadd hx hb dL_law_1184 ?_
  refine va_sld hx hb hX hbl hbA hw.2.2.2 v2 dL_law_1185 ?_
  refine lv_aload_n hx hb dL_law_1186 rfl (lv_at hl 0 rfl) ?_
  refine lv_iload_n hx hb dL_law_1187 rfl (lv_at hl 3 rfl) ?_
  refine lv_iconst (v := nI 3) hx hb dL_law_1188 (by decide) ?_
  refine lv_iadd hx hb dL_law_1189 ?_
  refine va_sld hx hb hX hbl hbA hw.2.2.2 v3 dL_law_1190 ?_
  refine lv_aload_n hx hb dL_law_1191 rfl (lv_at hl 0 rfl) ?_
  refine lv_iload_n hx hb dL_law_1192 rfl (lv_at hl 3 rfl) ?_
  refine lv_iconst (v := nI 4) hx hb dL_law_1193 (by decide) ?_
  refine lv_iadd hx hb dL_law_1194 ?_
  refine va_sld hx hb hX hbl hbA hw.2.2.2 v4 dL_law_1195 ?_
  refine lv_aload_n hx hb dL_law_1196 rfl (lv_at hl 0 rfl) ?_
  refine lv_iload_n hx hb dL_law_1197 rfl (lv_at hl 3 rfl) ?_
  refine lv_iconst (v := nI 5) hx hb dL_law_1198 (by decide) ?_
  refine lv_iadd hx hb dL_law_1199 ?_
  refine va_sld hx hb hX hbl hbA hw.2.2.2 v5 dL_law_1200 ?_
  refine z_l2i (b := 0) (As := [.int (xs (nI i + nI 1).toNatClampNeg), .int (xs (nI i + nI 2).toNatClampNeg), .int (xs (nI i + nI 3).toNatClampNeg), .int (xs (nI i + nI 4).toNatClampNeg), .int (xs (nI i + nI 5).toNatClampNeg)]) (rest := [_]) ⟨hx, hb, hml, hown, hts⟩ hK hw hA (kX11_shifts l D g ad1 τ (xs (nI i + nI 1).toNatClampNeg) (xs (nI i + nI 2).toNatClampNeg) (xs (nI i + nI 3).toNatClampNeg) (xs (nI i + nI 4).toNatClampNeg) (xs (nI i + nI 5).toNatClampNeg) (r, τ') e2) (zcwV 5 hts zgoodTbl zw_1131 zw_1132 zw_1133 zw_64 zw_1134 rfl rfl hX11_shifts ⟨Nat.le_of_ble_eq_true rfl, Nat.le_of_ble_eq_true rfl⟩) zO1_0 rfl hl.1 rfl (Nat.le_of_ble_eq_true rfl) dL_law_1201 ⟨Nat.le_of_ble_eq_true rfl, Nat.le_of_ble_eq_true rfl⟩ (fun H locs hw => ?_)
  have hw := hw.flip
  refine lv_icmp_eq (tgt := 1616) hx hb dL_law_1204 (by decide) (fun _ => ?_) (fun h => absurd rfl h)
  exact hk _ _ _ _ hI hw
set_option maxHeartbeats 4000000 in
set_option maxRecDepth 100000 in
theorem lc_booth {p : Program} {l : Launch} {e : Env} {s : State} {m : MethodId} {below : List Frame} {meth : Method} {c : Code} {b L i : Nat} {xs : Nat → Int32} {D : va_G} {g : zG} {ad0 ad1 : Nat → Nat} {Q : State → Prop} (C : lwC p s m c b L i xs D g) {σ τ : zSt} {H : Heap} {locs : List Loc} {ls : Array Slot} (hI : Inv σ τ) (hw : zL2 D g 0 ad0 (fun q => s.heap.size ≤ q) s.heap σ (zW g 1 ad1 τ) H locs) (hl : lv_has ls 4 [(0, .ref b), (1, .ref (ad0 0)), (2, .ref (ad1 0)), (3, .int (nI i))]) (hk : ∀ (σ τ : zSt) (H : Heap) (locs : List Loc), Inv σ τ → zL2 D g 0 ad0 (fun q => s.heap.size ≤ q) s.heap σ (zW g 1 ad1 τ) H locs → W p l e room_1 s m #[.ref b] below meth c H locs 101 14404 Q (F0 m 1616 ls [])) : W p l e room_1 s m #[.ref b] below meth c H locs 101 14404 Q (F0 m 1209 ls []) := by
  obtain ⟨hx, hb, hml, hown, hts, hK, hX, hbl, hi, hL⟩ := C
  have hA : ∀ q : Nat, s.heap.size ≤ q → (fun q : Nat => s.heap.size ≤ q) q := fun _ h => h
  have hbA : ¬ (fun q : Nat => s.heap.size ≤ q) b := Nat.not_le.mpr hbl
  have v1 := lw_in (a := 1) hi hL (by decide)
  have v2 := lw_in (a := 2) hi hL (by decide)
  have v3 := lw_in (a := 3) hi hL (by decide)
  have v4 := lw_in (a := 4) hi hL (by decide)
  have v5 := lw_in (a := 5) hi hL (by decide)
  obtain ⟨r, σ', τ', e1, e2, hI⟩ := q_booth hI (xs (nI i + nI 1).toNatClampNeg) (xs (nI i + nI 2).toNatClampNeg) (xs (nI i + nI 3).toNatClampNeg) (xs (nI i + nI 4).toNatClampNeg) (xs (nI i + nI 5).toNatClampNeg)
  refine lv_aload_n hx hb dL_law_1209 rfl (lv_at hl 1 rfl) ?_
  refine lv_aload_n hx hb dL_law_1210 rfl (lv_at hl 0 rfl) ?_
  refine lv_iload_n hx hb dL_law_1211 rfl (lv_at hl 3 rfl) ?_
  refine lv_iconst (v := nI 1) hx hb dL_law_1212 (by decide) ?_
  refine lv_iadd hx hb dL_law_1213 ?_
  refine va_sld hx hb hX hbl hbA hw.2.2.2 v1 dL_law_1214 ?_
  refine lv_aload_n hx hb dL_law_1215 rfl (lv_at hl 0 rfl) ?_
  refine lv_iload_n hx hb dL_law_1216 rfl (lv_at hl 3 rfl) ?_
  refine lv_iconst (v := nI 2) hx hb dL_law_1217 (by decide) ?_
  refine lv_iadd hx hb dL_law_1218 ?_
  refine va_sld hx hb hX hbl hbA hw.2.2.2 v2 dL_law_1219 ?_
  refine lv_aload_n hx hb dL_law_1220 rfl (lv_at hl 0 rfl) ?_
  refine lv_iload_n hx hb dL_law_1221 rfl (lv_at hl 3 rfl) ?_
  refine lv_iconst (v := nI 3) hx hb dL_law_1222 (by decide) ?_
  refine lv_iadd hx hb dL_law_1223 ?_
  refine va_sld hx hb hX hbl hbA hw.2.2.2 v3 dL_law_1224 ?_
  refine lv_aload_n hx hb dL_law_1225 rfl (lv_at hl 0 rfl) ?_
  refine lv_iload_n hx hb dL_law_1226 rfl (lv_at hl 3 rfl) ?_
  refine lv_iconst (v := nI 4) hx hb dL_law_1227 (by decide) ?_
  refine lv_iadd hx hb dL_law_1228 ?_
  refine va_sld hx hb hX hbl hbA hw.2.2.2 v4 dL_law_1229 ?_
  refine lv_aload_n hx hb dL_law_1230 rfl (lv_at hl 0 rfl) ?_
  refine lv_iload_n hx hb dL_law_1231 rfl (lv_at hl 3 rfl) ?_
  refine lv_iconst (v := nI 5) hx hb dL_law_1232 (by decide) ?_
  refine lv_iadd hx hb dL_law_1233 ?_
  refine va_sld hx hb hX hbl hbA hw.2.2.2 v5 dL_law_1234 ?_
  refine z_l2i (b := 0) (As := [.int (xs (nI i + nI 1).toNatClampNeg), .int (xs (nI i + nI 2).toNatClampNeg), .int (xs (nI i + nI 3).toNatClampNeg), .int (xs (nI i + nI 4).toNatClampNeg), .int (xs (nI i + nI 5).toNatClampNeg)]) (rest := []) ⟨hx, hb, hml, hown, hts⟩ hK hw hA (kX10_booth l D g ad0 σ (xs (nI i + nI 1).toNatClampNeg) (xs (nI i + nI 2).toNatClampNeg) (xs (nI i + nI 3).toNatClampNeg) (xs (nI i + nI 4).toNatClampNeg) (xs (nI i + nI 5).toNatClampNeg) (r, σ') e1) (zcwV 5 hts zgoodTbl zw_727 zw_728 zw_729 zw_52 zw_730 rfl rfl hX10_booth ⟨Nat.le_of_ble_eq_true rfl, Nat.le_of_ble_eq_true rfl⟩) zO0_0 rfl hl.1 rfl (Nat.le_of_ble_eq_true rfl) dL_law_1235 ⟨Nat.le_of_ble_eq_true rfl, Nat.le_of_ble_eq_true rfl⟩ (fun H locs hw => ?_)
  have hw := hw.flip
  refine lv_aload_n hx hb dL_law_1238 rfl (lv_at hl 2 rfl) ?_
  refine lv_aload_n hx hb dL_law_1239 rfl (lv_at hl 0 rfl) ?_
  refine lv_iload_n hx hb dL_law_1240 rfl (lv_at hl 3 rfl) ?_
  refine lv_iconst (v := nI 1) hx hb dL_law_1241 (by decide) ?_
  refine lv_iadd hx hb dL_law_1242 ?_
  refine va_sld hx hb hX hbl hbA hw.2.2.2 v1 dL_law_1243 ?_
  refine lv_aload_n hx hb dL_law_1244 rfl (lv_at hl 0 rfl) ?_
  refine lv_iload_n hx hb dL_law_1245 rfl (lv_at hl 3 rfl) ?_
  refine lv_iconst (v := nI 2) hx hb dL_law_1246 (by decide) ?_
  refine lv_iadd hx hb dL_law_1247 ?_
  refine va_sld hx hb hX hbl hbA hw.2.2.2 v2 dL_law_1248 ?_
  refine lv_aload_n hx hb dL_law_1249 rfl (lv_at hl 0 rfl) ?_
  refine lv_iload_n hx hb dL_law_1250 rfl (lv_at hl 3 rfl) ?_
  refine lv_iconst (v := nI 3) hx hb dL_law_1251 (by decide) ?_
  refine lv_iadd hx hb dL_law_1252 ?_
  refine va_sld hx hb hX hbl hbA hw.2.2.2 v3 dL_law_1253 ?_
  refine lv_aload_n hx hb dL_law_1254 rfl (lv_at hl 0 rfl) ?_
  refine lv_iload_n hx hb dL_law_1255 rfl (lv_at hl 3 rfl) ?_
  refine lv_iconst (v := nI 4) hx hb dL_law_1256 (by decide) ?_
  refine lv_iadd hx hb dL_law_1257 ?_
  refine va_sld hx hb hX hbl hbA hw.2.2.2 v4 dL_law_1258 ?_
  refine lv_aload_n hx hb dL_law_1259 rfl (lv_at hl 0 rfl) ?_
  refine lv_iload_n hx hb dL_law_1260 rfl (lv_at hl 3 rfl) ?_
  refine lv_iconst (v := nI 5) hx hb dL_law_1261 (by decide) ?_
  refine lv_iadd hx hb dL_law_1262 ?_
  refine va_sld hx hb hX hbl hbA hw.2.2.2 v5 dL_law_1263 ?_
  refine z_l2i (b := 0) (As := [.int (xs (nI i + nI 1).toNatClampNeg), .int (xs (nI i + nI 2).toNatClampNeg), .int (xs (nI i + nI 3).toNatClampNeg), .int (xs (nI i + nI 4).toNatClampNeg), .int (xs (nI i + nI 5).toNatClampNeg)]) (rest := [_]) ⟨hx, hb, hml, hown, hts⟩ hK hw hA (kX11_booth l D g ad1 τ (xs (nI i + nI 1).toNatClampNeg) (xs (nI i + nI 2).toNatClampNeg) (xs (nI i + nI 3).toNatClampNeg) (xs (nI i + nI 4).toNatClampNeg) (xs (nI i + nI 5).toNatClampNeg) (r, τ') e2) (zcwV 5 hts zgoodTbl zw_1152 zw_1153 zw_1154 zw_64 zw_1155 rfl rfl hX11_booth ⟨Nat.le_of_ble_eq_true rfl, Nat.le_of_ble_eq_true rfl⟩) zO1_0 rfl hl.1 rfl (Nat.le_of_ble_eq_true rfl) dL_law_1264 ⟨Nat.le_of_ble_eq_true rfl, Nat.le_of_ble_eq_true rfl⟩ (fun H locs hw => ?_)
  have hw := hw.flip
  refine lv_icmp_eq (tgt := 1616) hx hb dL_law_1267 (by decide) (fun _ => ?_) (fun h => absurd rfl h)
  exact hk _ _ _ _ hI hw
set_option maxHeartbeats 4000000 in
set_option maxRecDepth 100000 in
theorem lc_sheet {p : Program} {l : Launch} {e : Env} {s : State} {m : MethodId} {below : List Frame} {meth : Method} {c : Code} {b L i : Nat} {xs : Nat → Int32} {D : va_G} {g : zG} {ad0 ad1 : Nat → Nat} {Q : State → Prop} (C : lwC p s m c b L i xs D g) {σ τ : zSt} {H : Heap} {locs : List Loc} {ls : Array Slot} (hI : Inv σ τ) (hw : zL2 D g 0 ad0 (fun q => s.heap.size ≤ q) s.heap σ (zW g 1 ad1 τ) H locs) (hl : lv_has ls 4 [(0, .ref b), (1, .ref (ad0 0)), (2, .ref (ad1 0)), (3, .int (nI i))]) (hk : ∀ (σ τ : zSt) (H : Heap) (locs : List Loc), Inv σ τ → zL2 D g 0 ad0 (fun q => s.heap.size ≤ q) s.heap σ (zW g 1 ad1 τ) H locs → W p l e room_1 s m #[.ref b] below meth c H locs 101 14404 Q (F0 m 1616 ls [])) : W p l e room_1 s m #[.ref b] below meth c H locs 101 14404 Q (F0 m 1272 ls []) := by
  obtain ⟨hx, hb, hml, hown, hts, hK, hX, hbl, hi, hL⟩ := C
  have hA : ∀ q : Nat, s.heap.size ≤ q → (fun q : Nat => s.heap.size ≤ q) q := fun _ h => h
  have hbA : ¬ (fun q : Nat => s.heap.size ≤ q) b := Nat.not_le.mpr hbl
  have v1 := lw_in (a := 1) hi hL (by decide)
  have v2 := lw_in (a := 2) hi hL (by decide)
  have v3 := lw_in (a := 3) hi hL (by decide)
  obtain ⟨r, σ', τ', e1, e2, hI⟩ := q_sheet hI (xs (nI i + nI 1).toNatClampNeg) (xs (nI i + nI 2).toNatClampNeg) (xs (nI i + nI 3).toNatClampNeg)
  refine lv_aload_n hx hb dL_law_1272 rfl (lv_at hl 1 rfl) ?_
  refine lv_aload_n hx hb dL_law_1273 rfl (lv_at hl 0 rfl) ?_
  refine lv_iload_n hx hb dL_law_1274 rfl (lv_at hl 3 rfl) ?_
  refine lv_iconst (v := nI 1) hx hb dL_law_1275 (by decide) ?_
  refine lv_iadd hx hb dL_law_1276 ?_
  refine va_sld hx hb hX hbl hbA hw.2.2.2 v1 dL_law_1277 ?_
  refine lv_aload_n hx hb dL_law_1278 rfl (lv_at hl 0 rfl) ?_
  refine lv_iload_n hx hb dL_law_1279 rfl (lv_at hl 3 rfl) ?_
  refine lv_iconst (v := nI 2) hx hb dL_law_1280 (by decide) ?_
  refine lv_iadd hx hb dL_law_1281 ?_
  refine va_sld hx hb hX hbl hbA hw.2.2.2 v2 dL_law_1282 ?_
  refine lv_aload_n hx hb dL_law_1283 rfl (lv_at hl 0 rfl) ?_
  refine lv_iload_n hx hb dL_law_1284 rfl (lv_at hl 3 rfl) ?_
  refine lv_iconst (v := nI 3) hx hb dL_law_1285 (by decide) ?_
  refine lv_iadd hx hb dL_law_1286 ?_
  refine va_sld hx hb hX hbl hbA hw.2.2.2 v3 dL_law_1287 ?_
  refine z_l2i (b := 0) (As := [.int (xs (nI i + nI 1).toNatClampNeg), .int (xs (nI i + nI 2).toNatClampNeg), .int (xs (nI i + nI 3).toNatClampNeg)]) (rest := []) ⟨hx, hb, hml, hown, hts⟩ hK hw hA (kX10_sheet l D g ad0 σ (xs (nI i + nI 1).toNatClampNeg) (xs (nI i + nI 2).toNatClampNeg) (xs (nI i + nI 3).toNatClampNeg) (r, σ') e1) (zcwV 3 hts zgoodTbl zw_740 zw_741 zw_742 zw_52 zw_743 rfl rfl hX10_sheet ⟨Nat.le_of_ble_eq_true rfl, Nat.le_of_ble_eq_true rfl⟩) zO0_0 rfl hl.1 rfl (Nat.le_of_ble_eq_true rfl) dL_law_1288 ⟨Nat.le_of_ble_eq_true rfl, Nat.le_of_ble_eq_true rfl⟩ (fun H locs hw => ?_)
  have hw := hw.flip
  refine lv_aload_n hx hb dL_law_1291 rfl (lv_at hl 2 rfl) ?_
  refine lv_aload_n hx hb dL_law_1292 rfl (lv_at hl 0 rfl) ?_
  refine lv_iload_n hx hb dL_law_1293 rfl (lv_at hl 3 rfl) ?_
  refine lv_iconst (v := nI 1) hx hb dL_law_1294 (by decide) ?_
  refine lv_iadd hx hb dL_law_1295 ?_
  refine va_sld hx hb hX hbl hbA hw.2.2.2 v1 dL_law_1296 ?_
  refine lv_aload_n hx hb dL_law_1297 rfl (lv_at hl 0 rfl) ?_
  refine lv_iload_n hx hb dL_law_1298 rfl (lv_at hl 3 rfl) ?_
  refine lv_iconst (v := nI 2) hx hb dL_law_1299 (by decide) ?_
  refine lv_iadd hx hb dL_law_1300 ?_
  refine va_sld hx hb hX hbl hbA hw.2.2.2 v2 dL_law_1301 ?_
  refine lv_aload_n hx hb dL_law_1302 rfl (lv_at hl 0 rfl) ?_
  refine lv_iload_n hx hb dL_law_1303 rfl (lv_at hl 3 rfl) ?_
  refine lv_iconst (v := nI 3) hx hb dL_law_1304 (by decide) ?_
  refine lv_iadd hx hb dL_law_1305 ?_
  refine va_sld hx hb hX hbl hbA hw.2.2.2 v3 dL_law_1306 ?_
  refine z_l2i (b := 0) (As := [.int (xs (nI i + nI 1).toNatClampNeg), .int (xs (nI i + nI 2).toNatClampNeg), .int (xs (nI i + nI 3).toNatClampNeg)]) (rest := [_]) ⟨hx, hb, hml, hown, hts⟩ hK hw hA (kX11_sheet l D g ad1 τ (xs (nI i + nI 1).toNatClampNeg) (xs (nI i + nI 2).toNatClampNeg) (xs (nI i + nI 3).toNatClampNeg) (r, τ') e2) (zcwV 3 hts zgoodTbl zw_1164 zw_1165 zw_1166 zw_64 zw_1167 rfl rfl hX11_sheet ⟨Nat.le_of_ble_eq_true rfl, Nat.le_of_ble_eq_true rfl⟩) zO1_0 rfl hl.1 rfl (Nat.le_of_ble_eq_true rfl) dL_law_1307 ⟨Nat.le_of_ble_eq_true rfl, Nat.le_of_ble_eq_true rfl⟩ (fun H locs hw => ?_)
  have hw := hw.flip
  refine lv_icmp_eq (tgt := 1616) hx hb dL_law_1310 (by decide) (fun _ => ?_) (fun h => absurd rfl h)
  exact hk _ _ _ _ hI hw
set_option maxHeartbeats 4000000 in
set_option maxRecDepth 100000 in
theorem lc_lose {p : Program} {l : Launch} {e : Env} {s : State} {m : MethodId} {below : List Frame} {meth : Method} {c : Code} {b L i : Nat} {xs : Nat → Int32} {D : va_G} {g : zG} {ad0 ad1 : Nat → Nat} {Q : State → Prop} (C : lwC p s m c b L i xs D g) {σ τ : zSt} {H : Heap} {locs : List Loc} {ls : Array Slot} (hI : Inv σ τ) (hw : zL2 D g 0 ad0 (fun q => s.heap.size ≤ q) s.heap σ (zW g 1 ad1 τ) H locs) (hl : lv_has ls 4 [(0, .ref b), (1, .ref (ad0 0)), (2, .ref (ad1 0)), (3, .int (nI i))]) (hk : ∀ (σ τ : zSt) (H : Heap) (locs : List Loc), Inv σ τ → zL2 D g 0 ad0 (fun q => s.heap.size ≤ q) s.heap σ (zW g 1 ad1 τ) H locs → W p l e room_1 s m #[.ref b] below meth c H locs 101 14404 Q (F0 m 1616 ls [])) : W p l e room_1 s m #[.ref b] below meth c H locs 101 14404 Q (F0 m 1315 ls []) := by
  obtain ⟨hx, hb, hml, hown, hts, hK, hX, hbl, hi, hL⟩ := C
  have hA : ∀ q : Nat, s.heap.size ≤ q → (fun q : Nat => s.heap.size ≤ q) q := fun _ h => h
  have hbA : ¬ (fun q : Nat => s.heap.size ≤ q) b := Nat.not_le.mpr hbl
  have v1 := lw_in (a := 1) hi hL (by decide)
  obtain ⟨r, σ', τ', e1, e2, hI⟩ := q_lose hI (xs (nI i + nI 1).toNatClampNeg)
  refine lv_aload_n hx hb dL_law_1315 rfl (lv_at hl 1 rfl) ?_
  refine lv_aload_n hx hb dL_law_1316 rfl (lv_at hl 0 rfl) ?_
  refine lv_iload_n hx hb dL_law_1317 rfl (lv_at hl 3 rfl) ?_
  refine lv_iconst (v := nI 1) hx hb dL_law_1318 (by decide) ?_
  refine lv_iadd hx hb dL_law_1319 ?_
  refine va_sld hx hb hX hbl hbA hw.2.2.2 v1 dL_law_1320 ?_
  refine z_l2i (b := 0) (As := [.int (xs (nI i + nI 1).toNatClampNeg)]) (rest := []) ⟨hx, hb, hml, hown, hts⟩ hK hw hA (kX10_lose l D g ad0 σ (xs (nI i + nI 1).toNatClampNeg) (r, σ') e1) (zcwV 1 hts zgoodTbl zw_748 zw_749 zw_750 zw_52 zw_751 rfl rfl hX10_lose ⟨Nat.le_of_ble_eq_true rfl, Nat.le_of_ble_eq_true rfl⟩) zO0_0 rfl hl.1 rfl (Nat.le_of_ble_eq_true rfl) dL_law_1321 ⟨Nat.le_of_ble_eq_true rfl, Nat.le_of_ble_eq_true rfl⟩ (fun H locs hw => ?_)
  have hw := hw.flip
  refine lv_aload_n hx hb dL_law_1324 rfl (lv_at hl 2 rfl) ?_
  refine lv_aload_n hx hb dL_law_1325 rfl (lv_at hl 0 rfl) ?_
  refine lv_iload_n hx hb dL_law_1326 rfl (lv_at hl 3 rfl) ?_
  refine lv_iconst (v := nI 1) hx hb dL_law_1327 (by decide) ?_
  refine lv_iadd hx hb dL_law_1328 ?_
  refine va_sld hx hb hX hbl hbA hw.2.2.2 v1 dL_law_1329 ?_
  refine z_l2i (b := 0) (As := [.int (xs (nI i + nI 1).toNatClampNeg)]) (rest := [_]) ⟨hx, hb, hml, hown, hts⟩ hK hw hA (kX11_lose l D g ad1 τ (xs (nI i + nI 1).toNatClampNeg) (r, τ') e2) (zcwV 1 hts zgoodTbl zw_1168 zw_1169 zw_1170 zw_64 zw_1171 rfl rfl hX11_lose ⟨Nat.le_of_ble_eq_true rfl, Nat.le_of_ble_eq_true rfl⟩) zO1_0 rfl hl.1 rfl (Nat.le_of_ble_eq_true rfl) dL_law_1330 ⟨Nat.le_of_ble_eq_true rfl, Nat.le_of_ble_eq_true rfl⟩ (fun H locs hw => ?_)
  have hw := hw.flip
  refine lv_icmp_eq (tgt := 1616) hx hb dL_law_1333 (by decide) (fun _ => ?_) (fun h => absurd rfl h)
  exact hk _ _ _ _ hI hw
set_option maxHeartbeats 4000000 in
set_option maxRecDepth 100000 in
theorem lc_put {p : Program} {l : Launch} {e : Env} {s : State} {m : MethodId} {below : List Frame} {meth : Method} {c : Code} {b L i : Nat} {xs : Nat → Int32} {D : va_G} {g : zG} {ad0 ad1 : Nat → Nat} {Q : State → Prop} (C : lwC p s m c b L i xs D g) {σ τ : zSt} {H : Heap} {locs : List Loc} {ls : Array Slot} (hI : Inv σ τ) (hw : zL2 D g 0 ad0 (fun q => s.heap.size ≤ q) s.heap σ (zW g 1 ad1 τ) H locs) (hl : lv_has ls 4 [(0, .ref b), (1, .ref (ad0 0)), (2, .ref (ad1 0)), (3, .int (nI i))]) (hk : ∀ (σ τ : zSt) (H : Heap) (locs : List Loc), Inv σ τ → zL2 D g 0 ad0 (fun q => s.heap.size ≤ q) s.heap σ (zW g 1 ad1 τ) H locs → W p l e room_1 s m #[.ref b] below meth c H locs 101 14404 Q (F0 m 1616 ls [])) : W p l e room_1 s m #[.ref b] below meth c H locs 101 14404 Q (F0 m 1338 ls []) := by
  obtain ⟨hx, hb, hml, hown, hts, hK, hX, hbl, hi, hL⟩ := C
  have hA : ∀ q : Nat, s.heap.size ≤ q → (fun q : Nat => s.heap.size ≤ q) q := fun _ h => h
  have hbA : ¬ (fun q : Nat => s.heap.size ≤ q) b := Nat.not_le.mpr hbl
  have v1 := lw_in (a := 1) hi hL (by decide)
  have v2 := lw_in (a := 2) hi hL (by decide)
  have v3 := lw_in (a := 3) hi hL (by decide)
  obtain ⟨r, σ', τ', e1, e2, hI⟩ := q_put hI (xs (nI i + nI 1).toNatClampNeg) (xs (nI i + nI 2).toNatClampNeg) (xs (nI i + nI 3).toNatClampNeg)
  refine lv_aload_n hx hb dL_law_1338 rfl (lv_at hl 1 rfl) ?_
  refine lv_aload_n hx hb dL_law_1339 rfl (lv_at hl 0 rfl) ?_
  refine lv_iload_n hx hb dL_law_1340 rfl (lv_at hl 3 rfl) ?_
  refine lv_iconst (v := nI 1) hx hb dL_law_1341 (by decide) ?_
  refine lv_iadd hx hb dL_law_1342 ?_
  refine va_sld hx hb hX hbl hbA hw.2.2.2 v1 dL_law_1343 ?_
  refine lv_aload_n hx hb dL_law_1344 rfl (lv_at hl 0 rfl) ?_
  refine lv_iload_n hx hb dL_law_1345 rfl (lv_at hl 3 rfl) ?_
  refine lv_iconst (v := nI 2) hx hb dL_law_1346 (by decide) ?_
  refine lv_iadd hx hb dL_law_1347 ?_
  refine va_sld hx hb hX hbl hbA hw.2.2.2 v2 dL_law_1348 ?_
  refine lv_aload_n hx hb dL_law_1349 rfl (lv_at hl 0 rfl) ?_
  refine lv_iload_n hx hb dL_law_1350 rfl (lv_at hl 3 rfl) ?_
  refine lv_iconst (v := nI 3) hx hb dL_law_1351 (by decide) ?_
  refine lv_iadd hx hb dL_law_1352 ?_
  refine va_sld hx hb hX hbl hbA hw.2.2.2 v3 dL_law_1353 ?_
  refine z_l2i (b := 0) (As := [.int (xs (nI i + nI 1).toNatClampNeg), .int (xs (nI i + nI 2).toNatClampNeg), .int (xs (nI i + nI 3).toNatClampNeg)]) (rest := []) ⟨hx, hb, hml, hown, hts⟩ hK hw hA (kX10_put l D g ad0 σ (xs (nI i + nI 1).toNatClampNeg) (xs (nI i + nI 2).toNatClampNeg) (xs (nI i + nI 3).toNatClampNeg) (r, σ') e1) (zcwV 3 hts zgoodTbl zw_756 zw_757 zw_758 zw_52 zw_759 rfl rfl hX10_put ⟨Nat.le_of_ble_eq_true rfl, Nat.le_of_ble_eq_true rfl⟩) zO0_0 rfl hl.1 rfl (Nat.le_of_ble_eq_true rfl) dL_law_1354 ⟨Nat.le_of_ble_eq_true rfl, Nat.le_of_ble_eq_true rfl⟩ (fun H locs hw => ?_)
  have hw := hw.flip
  refine lv_aload_n hx hb dL_law_1357 rfl (lv_at hl 2 rfl) ?_
  refine lv_aload_n hx hb dL_law_1358 rfl (lv_at hl 0 rfl) ?_
  refine lv_iload_n hx hb dL_law_1359 rfl (lv_at hl 3 rfl) ?_
  refine lv_iconst (v := nI 1) hx hb dL_law_1360 (by decide) ?_
  refine lv_iadd hx hb dL_law_1361 ?_
  refine va_sld hx hb hX hbl hbA hw.2.2.2 v1 dL_law_1362 ?_
  refine lv_aload_n hx hb dL_law_1363 rfl (lv_at hl 0 rfl) ?_
  refine lv_iload_n hx hb dL_law_1364 rfl (lv_at hl 3 rfl) ?_
  refine lv_iconst (v := nI 2) hx hb dL_law_1365 (by decide) ?_
  refine lv_iadd hx hb dL_law_1366 ?_
  refine va_sld hx hb hX hbl hbA hw.2.2.2 v2 dL_law_1367 ?_
  refine lv_aload_n hx hb dL_law_1368 rfl (lv_at hl 0 rfl) ?_
  refine lv_iload_n hx hb dL_law_1369 rfl (lv_at hl 3 rfl) ?_
  refine lv_iconst (v := nI 3) hx hb dL_law_1370 (by decide) ?_
  refine lv_iadd hx hb dL_law_1371 ?_
  refine va_sld hx hb hX hbl hbA hw.2.2.2 v3 dL_law_1372 ?_
  refine z_l2i (b := 0) (As := [.int (xs (nI i + nI 1).toNatClampNeg), .int (xs (nI i + nI 2).toNatClampNeg), .int (xs (nI i + nI 3).toNatClampNeg)]) (rest := [_]) ⟨hx, hb, hml, hown, hts⟩ hK hw hA (kX11_put l D g ad1 τ (xs (nI i + nI 1).toNatClampNeg) (xs (nI i + nI 2).toNatClampNeg) (xs (nI i + nI 3).toNatClampNeg) (r, τ') e2) (zcwV 3 hts zgoodTbl zw_1172 zw_1173 zw_1174 zw_64 zw_1175 rfl rfl hX11_put ⟨Nat.le_of_ble_eq_true rfl, Nat.le_of_ble_eq_true rfl⟩) zO1_0 rfl hl.1 rfl (Nat.le_of_ble_eq_true rfl) dL_law_1373 ⟨Nat.le_of_ble_eq_true rfl, Nat.le_of_ble_eq_true rfl⟩ (fun H locs hw => ?_)
  have hw := hw.flip
  refine lv_icmp_eq (tgt := 1616) hx hb dL_law_1376 (by decide) (fun _ => ?_) (fun h => absurd rfl h)
  exact hk _ _ _ _ hI hw
set_option maxHeartbeats 4000000 in
set_option maxRecDepth 100000 in
theorem lc_cell {p : Program} {l : Launch} {e : Env} {s : State} {m : MethodId} {below : List Frame} {meth : Method} {c : Code} {b L i : Nat} {xs : Nat → Int32} {D : va_G} {g : zG} {ad0 ad1 : Nat → Nat} {Q : State → Prop} (C : lwC p s m c b L i xs D g) {σ τ : zSt} {H : Heap} {locs : List Loc} {ls : Array Slot} (hI : Inv σ τ) (hw : zL2 D g 0 ad0 (fun q => s.heap.size ≤ q) s.heap σ (zW g 1 ad1 τ) H locs) (hl : lv_has ls 4 [(0, .ref b), (1, .ref (ad0 0)), (2, .ref (ad1 0)), (3, .int (nI i))]) (hk : ∀ (σ τ : zSt) (H : Heap) (locs : List Loc), Inv σ τ → zL2 D g 0 ad0 (fun q => s.heap.size ≤ q) s.heap σ (zW g 1 ad1 τ) H locs → W p l e room_1 s m #[.ref b] below meth c H locs 101 14404 Q (F0 m 1616 ls [])) : W p l e room_1 s m #[.ref b] below meth c H locs 101 14404 Q (F0 m 1381 ls []) := by
  obtain ⟨hx, hb, hml, hown, hts, hK, hX, hbl, hi, hL⟩ := C
  have hA : ∀ q : Nat, s.heap.size ≤ q → (fun q : Nat => s.heap.size ≤ q) q := fun _ h => h
  have hbA : ¬ (fun q : Nat => s.heap.size ≤ q) b := Nat.not_le.mpr hbl
  have v1 := lw_in (a := 1) hi hL (by decide)
  have v2 := lw_in (a := 2) hi hL (by decide)
  have v3 := lw_in (a := 3) hi hL (by decide)
  obtain ⟨r, σ', τ', e1, e2, hI⟩ := q_cell hI (xs (nI i + nI 1).toNatClampNeg) (xs (nI i + nI 2).toNatClampNeg) (xs (nI i + nI 3).toNatClampNeg)
  refine lv_aload_n hx hb dL_law_1381 rfl (lv_at hl 1 rfl) ?_
  refine lv_aload_n hx hb dL_law_1382 rfl (lv_at hl 0 rfl) ?_
  refine lv_iload_n hx hb dL_law_1383 rfl (lv_at hl 3 rfl) ?_
  refine lv_iconst (v := nI 1) hx hb dL_law_1384 (by decide) ?_
  refine lv_iadd hx hb dL_law_1385 ?_
  refine va_sld hx hb hX hbl hbA hw.2.2.2 v1 dL_law_1386 ?_
  refine lv_aload_n hx hb dL_law_1387 rfl (lv_at hl 0 rfl) ?_
  refine lv_iload_n hx hb dL_law_1388 rfl (lv_at hl 3 rfl) ?_
  refine lv_iconst (v := nI 2) hx hb dL_law_1389 (by decide) ?_
  refine lv_iadd hx hb dL_law_1390 ?_
  refine va_sld hx hb hX hbl hbA hw.2.2.2 v2 dL_law_1391 ?_
  refine lv_aload_n hx hb dL_law_1392 rfl (lv_at hl 0 rfl) ?_
  refine lv_iload_n hx hb dL_law_1393 rfl (lv_at hl 3 rfl) ?_
  refine lv_iconst (v := nI 3) hx hb dL_law_1394 (by decide) ?_
  refine lv_iadd hx hb dL_law_1395 ?_
  refine va_sld hx hb hX hbl hbA hw.2.2.2 v3 dL_law_1396 ?_
  refine z_l2l (b := 0) (As := [.int (xs (nI i + nI 1).toNatClampNeg), .int (xs (nI i + nI 2).toNatClampNeg), .int (xs (nI i + nI 3).toNatClampNeg)]) (rest := []) ⟨hx, hb, hml, hown, hts⟩ hK hw hA (kX10_cell l D g ad0 σ (xs (nI i + nI 1).toNatClampNeg) (xs (nI i + nI 2).toNatClampNeg) (xs (nI i + nI 3).toNatClampNeg) (r, σ') e1) (zcwV 3 hts zgoodTbl zw_768 zw_769 zw_770 zw_52 zw_771 rfl rfl hX10_cell ⟨Nat.le_of_ble_eq_true rfl, Nat.le_of_ble_eq_true rfl⟩) zO0_0 rfl hl.1 rfl (Nat.le_of_ble_eq_true rfl) dL_law_1397 ⟨Nat.le_of_ble_eq_true rfl, Nat.le_of_ble_eq_true rfl⟩ (fun H locs hw => ?_)
  have hw := hw.flip
  refine lv_aload_n hx hb dL_law_1400 rfl (lv_at hl 2 rfl) ?_
  refine lv_aload_n hx hb dL_law_1401 rfl (lv_at hl 0 rfl) ?_
  refine lv_iload_n hx hb dL_law_1402 rfl (lv_at hl 3 rfl) ?_
  refine lv_iconst (v := nI 1) hx hb dL_law_1403 (by decide) ?_
  refine lv_iadd hx hb dL_law_1404 ?_
  refine va_sld hx hb hX hbl hbA hw.2.2.2 v1 dL_law_1405 ?_
  refine lv_aload_n hx hb dL_law_1406 rfl (lv_at hl 0 rfl) ?_
  refine lv_iload_n hx hb dL_law_1407 rfl (lv_at hl 3 rfl) ?_
  refine lv_iconst (v := nI 2) hx hb dL_law_1408 (by decide) ?_
  refine lv_iadd hx hb dL_law_1409 ?_
  refine va_sld hx hb hX hbl hbA hw.2.2.2 v2 dL_law_1410 ?_
  refine lv_aload_n hx hb dL_law_1411 rfl (lv_at hl 0 rfl) ?_
  refine lv_iload_n hx hb dL_law_1412 rfl (lv_at hl 3 rfl) ?_
  refine lv_iconst (v := nI 3) hx hb dL_law_1413 (by decide) ?_
  refine lv_iadd hx hb dL_law_1414 ?_
  refine va_sld hx hb hX hbl hbA hw.2.2.2 v3 dL_law_1415 ?_
  refine z_l2l (b := 0) (As := [.int (xs (nI i + nI 1).toNatClampNeg), .int (xs (nI i + nI 2).toNatClampNeg), .int (xs (nI i + nI 3).toNatClampNeg)]) (rest := [_]) ⟨hx, hb, hml, hown, hts⟩ hK hw hA (kX11_cell l D g ad1 τ (xs (nI i + nI 1).toNatClampNeg) (xs (nI i + nI 2).toNatClampNeg) (xs (nI i + nI 3).toNatClampNeg) (r, τ') e2) (zcwV 3 hts zgoodTbl zw_1176 zw_1177 zw_1178 zw_64 zw_1179 rfl rfl hX11_cell ⟨Nat.le_of_ble_eq_true rfl, Nat.le_of_ble_eq_true rfl⟩) zO1_0 rfl hl.1 rfl (Nat.le_of_ble_eq_true rfl) dL_law_1416 ⟨Nat.le_of_ble_eq_true rfl, Nat.le_of_ble_eq_true rfl⟩ (fun H locs hw => ?_)
  have hw := hw.flip
  refine z_lceq (tgt := 1616) hx hb dL_law_1419 dL_law_1420 (by decide) (fun _ => ?_) (fun h => absurd rfl h)
  exact hk _ _ _ _ hI hw
set_option maxHeartbeats 4000000 in
set_option maxRecDepth 100000 in
theorem lc_copy {p : Program} {l : Launch} {e : Env} {s : State} {m : MethodId} {below : List Frame} {meth : Method} {c : Code} {b L i : Nat} {xs : Nat → Int32} {D : va_G} {g : zG} {ad0 ad1 : Nat → Nat} {Q : State → Prop} (C : lwC p s m c b L i xs D g) {σ τ : zSt} {H : Heap} {locs : List Loc} {ls : Array Slot} (hI : Inv σ τ) (hw : zL2 D g 0 ad0 (fun q => s.heap.size ≤ q) s.heap σ (zW g 1 ad1 τ) H locs) (hl : lv_has ls 4 [(0, .ref b), (1, .ref (ad0 0)), (2, .ref (ad1 0)), (3, .int (nI i))]) (hk : ∀ (σ τ : zSt) (H : Heap) (locs : List Loc), Inv σ τ → zL2 D g 0 ad0 (fun q => s.heap.size ≤ q) s.heap σ (zW g 1 ad1 τ) H locs → W p l e room_1 s m #[.ref b] below meth c H locs 101 14404 Q (F0 m 1616 ls [])) : W p l e room_1 s m #[.ref b] below meth c H locs 101 14404 Q (F0 m 1425 ls []) := by
  obtain ⟨hx, hb, hml, hown, hts, hK, hX, hbl, hi, hL⟩ := C
  have hA : ∀ q : Nat, s.heap.size ≤ q → (fun q : Nat => s.heap.size ≤ q) q := fun _ h => h
  have hbA : ¬ (fun q : Nat => s.heap.size ≤ q) b := Nat.not_le.mpr hbl
  have v1 := lw_in (a := 1) hi hL (by decide)
  have v2 := lw_in (a := 2) hi hL (by decide)
  have v3 := lw_in (a := 3) hi hL (by decide)
  have v4 := lw_in (a := 4) hi hL (by decide)
  have v5 := lw_in (a := 5) hi hL (by decide)
  obtain ⟨r, σ', τ', e1, e2, hI⟩ := q_copy hI (xs (nI i + nI 1).toNatClampNeg) (xs (nI i + nI 2).toNatClampNeg) (xs (nI i + nI 3).toNatClampNeg) (xs (nI i + nI 4).toNatClampNeg) (xs (nI i + nI 5).toNatClampNeg)
  refine lv_aload_n hx hb dL_law_1425 rfl (lv_at hl 1 rfl) ?_
  refine lv_aload_n hx hb dL_law_1426 rfl (lv_at hl 0 rfl) ?_
  refine lv_iload_n hx hb dL_law_1427 rfl (lv_at hl 3 rfl) ?_
  refine lv_iconst (v := nI 1) hx hb dL_law_1428 (by decide) ?_
  refine lv_iadd hx hb dL_law_1429 ?_
  refine va_sld hx hb hX hbl hbA hw.2.2.2 v1 dL_law_1430 ?_
  refine lv_aload_n hx hb dL_law_1431 rfl (lv_at hl 0 rfl) ?_
  refine lv_iload_n hx hb dL_law_1432 rfl (lv_at hl 3 rfl) ?_
  refine lv_iconst (v := nI 2) hx hb dL_law_1433 (by decide) ?_
  refine lv_iadd hx hb dL_law_1434 ?_
  refine va_sld hx hb hX hbl hbA hw.2.2.2 v2 dL_law_1435 ?_
  refine lv_aload_n hx hb dL_law_1436 rfl (lv_at hl 0 rfl) ?_
  refine lv_iload_n hx hb dL_law_1437 rfl (lv_at hl 3 rfl) ?_
  refine lv_iconst (v := nI 3) hx hb dL_law_1438 (by decide) ?_
  refine lv_iadd hx hb dL_law_1439 ?_
  refine va_sld hx hb hX hbl hbA hw.2.2.2 v3 dL_law_1440 ?_
  refine lv_aload_n hx hb dL_law_1441 rfl (lv_at hl 0 rfl) ?_
  refine lv_iload_n hx hb dL_law_1442 rfl (lv_at hl 3 rfl) ?_
  refine lv_iconst (v := nI 4) hx hb dL_law_1443 (by decide) ?_
  refine lv_iadd hx hb dL_law_1444 ?_
  refine va_sld hx hb hX hbl hbA hw.2.2.2 v4 dL_law_1445 ?_
  refine lv_aload_n hx hb dL_law_1446 rfl (lv_at hl 0 rfl) ?_
  refine lv_iload_n hx hb dL_law_1447 rfl (lv_at hl 3 rfl) ?_
  refine lv_iconst (v := nI 5) hx hb dL_law_1448 (by decide) ?_
  refine lv_iadd hx hb dL_law_1449 ?_
  refine va_sld hx hb hX hbl hbA hw.2.2.2 v5 dL_law_1450 ?_
  refine z_l2i (b := 0) (As := [.int (xs (nI i + nI 1).toNatClampNeg), .int (xs (nI i + nI 2).toNatClampNeg), .int (xs (nI i + nI 3).toNatClampNeg), .int (xs (nI i + nI 4).toNatClampNeg), .int (xs (nI i + nI 5).toNatClampNeg)]) (rest := []) ⟨hx, hb, hml, hown, hts⟩ hK hw hA (kX10_copy l D g ad0 σ (xs (nI i + nI 1).toNatClampNeg) (xs (nI i + nI 2).toNatClampNeg) (xs (nI i + nI 3).toNatClampNeg) (xs (nI i + nI 4).toNatClampNeg) (xs (nI i + nI 5).toNatClampNeg) (r, σ') e1) (zcwV 5 hts zgoodTbl zw_773 zw_774 zw_775 zw_52 zw_776 rfl rfl hX10_copy ⟨Nat.le_of_ble_eq_true rfl, Nat.le_of_ble_eq_true rfl⟩) zO0_0 rfl hl.1 rfl (Nat.le_of_ble_eq_true rfl) dL_law_1451 ⟨Nat.le_of_ble_eq_true rfl, Nat.le_of_ble_eq_true rfl⟩ (fun H locs hw => ?_)
  have hw := hw.flip
  refine lv_aload_n hx hb dL_law_1454 rfl (lv_at hl 2 rfl) ?_
  refine lv_aload_n hx hb dL_law_1455 rfl (lv_at hl 0 rfl) ?_
  refine lv_iload_n hx hb dL_law_1456 rfl (lv_at hl 3 rfl) ?_
  refine lv_iconst (v := nI 1) hx hb dL_law_1457 (by decide) ?_
  refine lv_iadd hx hb dL_law_1458 ?_
  refine va_sld hx hb hX hbl hbA hw.2.2.2 v1 dL_law_1459 ?_
  refine lv_aload_n hx hb dL_law_1460 rfl (lv_at hl 0 rfl) ?_
  refine lv_iload_n hx hb dL_law_1461 rfl (lv_at hl 3 rfl) ?_
  refine lv_iconst (v := nI 2) hx hb dL_law_1462 (by decide) ?_
  refine lv_iadd hx hb dL_law_1463 ?_
  refine va_sld hx hb hX hbl hbA hw.2.2.2 v2 dL_law_1464 ?_
  refine lv_aload_n hx hb dL_law_1465 rfl (lv_at hl 0 rfl) ?_
  refine lv_iload_n hx hb dL_law_1466 rfl (lv_at hl 3 rfl) ?_
  refine lv_iconst (v := nI 3) hx hb dL_law_1467 (by decide) ?_
  refine lv_iadd hx hb dL_law_1468 ?_
  refine va_sld hx hb hX hbl hbA hw.2.2.2 v3 dL_law_1469 ?_
  refine lv_aload_n hx hb dL_law_1470 rfl (lv_at hl 0 rfl) ?_
  refine lv_iload_n hx hb dL_law_1471 rfl (lv_at hl 3 rfl) ?_
  refine lv_iconst (v := nI 4) hx hb dL_law_1472 (by decide) ?_
  refine lv_iadd hx hb dL_law_1473 ?_
  refine va_sld hx hb hX hbl hbA hw.2.2.2 v4 dL_law_1474 ?_
  refine lv_aload_n hx hb dL_law_1475 rfl (lv_at hl 0 rfl) ?_
  refine lv_iload_n hx hb dL_law_1476 rfl (lv_at hl 3 rfl) ?_
  refine lv_iconst (v := nI 5) hx hb dL_law_1477 (by decide) ?_
  refine lv_iadd hx hb dL_law_1478 ?_
  refine va_sld hx hb hX hbl hbA hw.2.2.2 v5 dL_law_1479 ?_
  refine z_l2i (b := 0) (As := [.int (xs (nI i + nI 1).toNatClampNeg), .int (xs (nI i + nI 2).toNatClampNeg), .int (xs (nI i + nI 3).toNatClampNeg), .int (xs (nI i + nI 4).toNatClampNeg), .int (xs (nI i + nI 5).toNatClampNeg)]) (rest := [_]) ⟨hx, hb, hml, hown, hts⟩ hK hw hA (kX11_copy l D g ad1 τ (xs (nI i + nI 1).toNatClampNeg) (xs (nI i + nI 2).toNatClampNeg) (xs (nI i + nI 3).toNatClampNeg) (xs (nI i + nI 4).toNatClampNeg) (xs (nI i + nI 5).toNatClampNeg) (r, τ') e2) (zcwV 5 hts zgoodTbl zw_1180 zw_1181 zw_1182 zw_64 zw_1183 rfl rfl hX11_copy ⟨Nat.le_of_ble_eq_true rfl, Nat.le_of_ble_eq_true rfl⟩) zO1_0 rfl hl.1 rfl (Nat.le_of_ble_eq_true rfl) dL_law_1480 ⟨Nat.le_of_ble_eq_true rfl, Nat.le_of_ble_eq_true rfl⟩ (fun H locs hw => ?_)
  have hw := hw.flip
  refine lv_icmp_eq (tgt := 1616) hx hb dL_law_1483 (by decide) (fun _ => ?_) (fun h => absurd rfl h)
  exact hk _ _ _ _ hI hw
set_option maxHeartbeats 4000000 in
set_option maxRecDepth 100000 in
theorem lc_tell {p : Program} {l : Launch} {e : Env} {s : State} {m : MethodId} {below : List Frame} {meth : Method} {c : Code} {b L i : Nat} {xs : Nat → Int32} {D : va_G} {g : zG} {ad0 ad1 : Nat → Nat} {Q : State → Prop} (C : lwC p s m c b L i xs D g) {σ τ : zSt} {H : Heap} {locs : List Loc} {ls : Array Slot} (hI : Inv σ τ) (hw : zL2 D g 0 ad0 (fun q => s.heap.size ≤ q) s.heap σ (zW g 1 ad1 τ) H locs) (hl : lv_has ls 4 [(0, .ref b), (1, .ref (ad0 0)), (2, .ref (ad1 0)), (3, .int (nI i))]) (hk : ∀ (σ τ : zSt) (H : Heap) (locs : List Loc), Inv σ τ → zL2 D g 0 ad0 (fun q => s.heap.size ≤ q) s.heap σ (zW g 1 ad1 τ) H locs → W p l e room_1 s m #[.ref b] below meth c H locs 101 14404 Q (F0 m 1616 ls [])) : W p l e room_1 s m #[.ref b] below meth c H locs 101 14404 Q (F0 m 1488 ls []) := by
  obtain ⟨hx, hb, hml, hown, hts, hK, hX, hbl, hi, hL⟩ := C
  have hA : ∀ q : Nat, s.heap.size ≤ q → (fun q : Nat => s.heap.size ≤ q) q := fun _ h => h
  have hbA : ¬ (fun q : Nat => s.heap.size ≤ q) b := Nat.not_le.mpr hbl
  have v1 := lw_in (a := 1) hi hL (by decide)
  obtain ⟨r, σ', τ', e1, e2, hI⟩ := q_tell hI (xs (nI i + nI 1).toNatClampNeg)
  refine lv_aload_n hx hb dL_law_1488 rfl (lv_at hl 1 rfl) ?_
  refine lv_aload_n hx hb dL_law_1489 rfl (lv_at hl 0 rfl) ?_
  refine lv_iload_n hx hb dL_law_1490 rfl (lv_at hl 3 rfl) ?_
  refine lv_iconst (v := nI 1) hx hb dL_law_1491 (by decide) ?_
  refine lv_iadd hx hb dL_law_1492 ?_
  refine va_sld hx hb hX hbl hbA hw.2.2.2 v1 dL_law_1493 ?_
  refine z_l2i (b := 0) (As := [.int (xs (nI i + nI 1).toNatClampNeg)]) (rest := []) ⟨hx, hb, hml, hown, hts⟩ hK hw hA (kX10_tell l D g ad0 σ (xs (nI i + nI 1).toNatClampNeg) (r, σ') e1) (zcwV 1 hts zgoodTbl zw_784 zw_785 zw_786 zw_52 zw_787 rfl rfl hX10_tell ⟨Nat.le_of_ble_eq_true rfl, Nat.le_of_ble_eq_true rfl⟩) zO0_0 rfl hl.1 rfl (Nat.le_of_ble_eq_true rfl) dL_law_1494 ⟨Nat.le_of_ble_eq_true rfl, Nat.le_of_ble_eq_true rfl⟩ (fun H locs hw => ?_)
  have hw := hw.flip
  refine lv_aload_n hx hb dL_law_1497 rfl (lv_at hl 2 rfl) ?_
  refine lv_aload_n hx hb dL_law_1498 rfl (lv_at hl 0 rfl) ?_
  refine lv_iload_n hx hb dL_law_1499 rfl (lv_at hl 3 rfl) ?_
  refine lv_iconst (v := nI 1) hx hb dL_law_1500 (by decide) ?_
  refine lv_iadd hx hb dL_law_1501 ?_
  refine va_sld hx hb hX hbl hbA hw.2.2.2 v1 dL_law_1502 ?_
  refine z_l2i (b := 0) (As := [.int (xs (nI i + nI 1).toNatClampNeg)]) (rest := [_]) ⟨hx, hb, hml, hown, hts⟩ hK hw hA (kX11_tell l D g ad1 τ (xs (nI i + nI 1).toNatClampNeg) (r, τ') e2) (zcwV 1 hts zgoodTbl zw_1184 zw_1185 zw_1186 zw_64 zw_1187 rfl rfl hX11_tell ⟨Nat.le_of_ble_eq_true rfl, Nat.le_of_ble_eq_true rfl⟩) zO1_0 rfl hl.1 rfl (Nat.le_of_ble_eq_true rfl) dL_law_1503 ⟨Nat.le_of_ble_eq_true rfl, Nat.le_of_ble_eq_true rfl⟩ (fun H locs hw => ?_)
  have hw := hw.flip
  refine lv_icmp_eq (tgt := 1616) hx hb dL_law_1506 (by decide) (fun _ => ?_) (fun h => absurd rfl h)
  exact hk _ _ _ _ hI hw
set_option maxHeartbeats 4000000 in
set_option maxRecDepth 100000 in
theorem lc_pay {p : Program} {l : Launch} {e : Env} {s : State} {m : MethodId} {below : List Frame} {meth : Method} {c : Code} {b L i : Nat} {xs : Nat → Int32} {D : va_G} {g : zG} {ad0 ad1 : Nat → Nat} {Q : State → Prop} (C : lwC p s m c b L i xs D g) {σ τ : zSt} {H : Heap} {locs : List Loc} {ls : Array Slot} (hI : Inv σ τ) (hw : zL2 D g 0 ad0 (fun q => s.heap.size ≤ q) s.heap σ (zW g 1 ad1 τ) H locs) (hl : lv_has ls 4 [(0, .ref b), (1, .ref (ad0 0)), (2, .ref (ad1 0)), (3, .int (nI i))]) (hk : ∀ (σ τ : zSt) (H : Heap) (locs : List Loc), Inv σ τ → zL2 D g 0 ad0 (fun q => s.heap.size ≤ q) s.heap σ (zW g 1 ad1 τ) H locs → W p l e room_1 s m #[.ref b] below meth c H locs 101 14404 Q (F0 m 1616 ls [])) : W p l e room_1 s m #[.ref b] below meth c H locs 101 14404 Q (F0 m 1511 ls []) := by
  obtain ⟨hx, hb, hml, hown, hts, hK, hX, hbl, hi, hL⟩ := C
  have hA : ∀ q : Nat, s.heap.size ≤ q → (fun q : Nat => s.heap.size ≤ q) q := fun _ h => h
  have hbA : ¬ (fun q : Nat => s.heap.size ≤ q) b := Nat.not_le.mpr hbl
  have v1 := lw_in (a := 1) hi hL (by decide)
  obtain ⟨r, σ', τ', e1, e2, hI⟩ := q_pay hI (xs (nI i + nI 1).toNatClampNeg)
  refine lv_aload_n hx hb dL_law_1511 rfl (lv_at hl 1 rfl) ?_
  refine lv_aload_n hx hb dL_law_1512 rfl (lv_at hl 0 rfl) ?_
  refine lv_iload_n hx hb dL_law_1513 rfl (lv_at hl 3 rfl) ?_
  refine lv_iconst (v := nI 1) hx hb dL_law_1514 (by decide) ?_
  refine lv_iadd hx hb dL_law_1515 ?_
  refine va_sld hx hb hX hbl hbA hw.2.2.2 v1 dL_law_1516 ?_
  refine z_l2i (b := 0) (As := [.int (xs (nI i + nI 1).toNatClampNeg)]) (rest := []) ⟨hx, hb, hml, hown, hts⟩ hK hw hA (kX10_pay l D g ad0 σ (xs (nI i + nI 1).toNatClampNeg) (r, σ') e1) (zcwV 1 hts zgoodTbl zw_808 zw_809 zw_810 zw_52 zw_811 rfl rfl hX10_pay ⟨Nat.le_of_ble_eq_true rfl, Nat.le_of_ble_eq_true rfl⟩) zO0_0 rfl hl.1 rfl (Nat.le_of_ble_eq_true rfl) dL_law_1517 ⟨Nat.le_of_ble_eq_true rfl, Nat.le_of_ble_eq_true rfl⟩ (fun H locs hw => ?_)
  have hw := hw.flip
  refine lv_aload_n hx hb dL_law_1520 rfl (lv_at hl 2 rfl) ?_
  refine lv_aload_n hx hb dL_law_1521 rfl (lv_at hl 0 rfl) ?_
  refine lv_iload_n hx hb dL_law_1522 rfl (lv_at hl 3 rfl) ?_
  refine lv_iconst (v := nI 1) hx hb dL_law_1523 (by decide) ?_
  refine lv_iadd hx hb dL_law_1524 ?_
  refine va_sld hx hb hX hbl hbA hw.2.2.2 v1 dL_law_1525 ?_
  refine z_l2i (b := 0) (As := [.int (xs (nI i + nI 1).toNatClampNeg)]) (rest := [_]) ⟨hx, hb, hml, hown, hts⟩ hK hw hA (kX11_pay l D g ad1 τ (xs (nI i + nI 1).toNatClampNeg) (r, τ') e2) (zcwV 1 hts zgoodTbl zw_1192 zw_1193 zw_1194 zw_64 zw_1195 rfl rfl hX11_pay ⟨Nat.le_of_ble_eq_true rfl, Nat.le_of_ble_eq_true rfl⟩) zO1_0 rfl hl.1 rfl (Nat.le_of_ble_eq_true rfl) dL_law_1526 ⟨Nat.le_of_ble_eq_true rfl, Nat.le_of_ble_eq_true rfl⟩ (fun H locs hw => ?_)
  have hw := hw.flip
  refine lv_icmp_eq (tgt := 1616) hx hb dL_law_1529 (by decide) (fun _ => ?_) (fun h => absurd rfl h)
  exact hk _ _ _ _ hI hw
set_option maxHeartbeats 4000000 in
set_option maxRecDepth 100000 in
theorem lc_as {p : Program} {l : Launch} {e : Env} {s : State} {m : MethodId} {below : List Frame} {meth : Method} {c : Code} {b L i : Nat} {xs : Nat → Int32} {D : va_G} {g : zG} {ad0 ad1 : Nat → Nat} {Q : State → Prop} (C : lwC p s m c b L i xs D g) {σ τ : zSt} {H : Heap} {locs : List Loc} {ls : Array Slot} (hI : Inv σ τ) (hw : zL2 D g 0 ad0 (fun q => s.heap.size ≤ q) s.heap σ (zW g 1 ad1 τ) H locs) (hl : lv_has ls 4 [(0, .ref b), (1, .ref (ad0 0)), (2, .ref (ad1 0)), (3, .int (nI i))]) (hk : ∀ (σ τ : zSt) (H : Heap) (locs : List Loc), Inv σ τ → zL2 D g 0 ad0 (fun q => s.heap.size ≤ q) s.heap σ (zW g 1 ad1 τ) H locs → W p l e room_1 s m #[.ref b] below meth c H locs 101 14404 Q (F0 m 1616 ls [])) : W p l e room_1 s m #[.ref b] below meth c H locs 101 14404 Q (F0 m 1534 ls []) := by
  obtain ⟨hx, hb, hml, hown, hts, hK, hX, hbl, hi, hL⟩ := C
  have hA : ∀ q : Nat, s.heap.size ≤ q → (fun q : Nat => s.heap.size ≤ q) q := fun _ h => h
  have hbA : ¬ (fun q : Nat => s.heap.size ≤ q) b := Nat.not_le.mpr hbl
  have v1 := lw_in (a := 1) hi hL (by decide)
  have v2 := lw_in (a := 2) hi hL (by decide)
  obtain ⟨r, σ', τ', e1, e2, hI⟩ := q_as hI (xs (nI i + nI 1).toNatClampNeg) (xs (nI i + nI 2).toNatClampNeg)
  refine lv_aload_n hx hb dL_law_1534 rfl (lv_at hl 1 rfl) ?_
  refine lv_aload_n hx hb dL_law_1535 rfl (lv_at hl 0 rfl) ?_
  refine lv_iload_n hx hb dL_law_1536 rfl (lv_at hl 3 rfl) ?_
  refine lv_iconst (v := nI 1) hx hb dL_law_1537 (by decide) ?_
  refine lv_iadd hx hb dL_law_1538 ?_
  refine va_sld hx hb hX hbl hbA hw.2.2.2 v1 dL_law_1539 ?_
  refine lv_aload_n hx hb dL_law_1540 rfl (lv_at hl 0 rfl) ?_
  refine lv_iload_n hx hb dL_law_1541 rfl (lv_at hl 3 rfl) ?_
  refine lv_iconst (v := nI 2) hx hb dL_law_1542 (by decide) ?_
  refine lv_iadd hx hb dL_law_1543 ?_
  refine va_sld hx hb hX hbl hbA hw.2.2.2 v2 dL_law_1544 ?_
  refine z_l2i (b := 0) (As := [.int (xs (nI i + nI 1).toNatClampNeg), .int (xs (nI i + nI 2).toNatClampNeg)]) (rest := []) ⟨hx, hb, hml, hown, hts⟩ hK hw hA (kX10_as l D g ad0 σ (xs (nI i + nI 1).toNatClampNeg) (xs (nI i + nI 2).toNatClampNeg) (r, σ') e1) (zcwV 2 hts zgoodTbl zw_816 zw_817 zw_818 zw_52 zw_819 rfl rfl hX10_as ⟨Nat.le_of_ble_eq_true rfl, Nat.le_of_ble_eq_true rfl⟩) zO0_0 rfl hl.1 rfl (Nat.le_of_ble_eq_true rfl) dL_law_1545 ⟨Nat.le_of_ble_eq_true rfl, Nat.le_of_ble_eq_true rfl⟩ (fun H locs hw => ?_)
  have hw := hw.flip
  refine lv_aload_n hx hb dL_law_1548 rfl (lv_at hl 2 rfl) ?_
  refine lv_aload_n hx hb dL_law_1549 rfl (lv_at hl 0 rfl) ?_
  refine lv_iload_n hx hb dL_law_1550 rfl (lv_at hl 3 rfl) ?_
  refine lv_iconst (v := nI 1) hx hb dL_law_1551 (by decide) ?_
  refine lv_iadd hx hb dL_law_1552 ?_
  refine va_sld hx hb hX hbl hbA hw.2.2.2 v1 dL_law_1553 ?_
  refine lv_aload_n hx hb dL_law_1554 rfl (lv_at hl 0 rfl) ?_
  refine lv_iload_n hx hb dL_law_1555 rfl (lv_at hl 3 rfl) ?_
  refine lv_iconst (v := nI 2) hx hb dL_law_1556 (by decide) ?_
  refine lv_iadd hx hb dL_law_1557 ?_
  refine va_sld hx hb hX hbl hbA hw.2.2.2 v2 dL_law_1558 ?_
  refine z_l2i (b := 0) (As := [.int (xs (nI i + nI 1).toNatClampNeg), .int (xs (nI i + nI 2).toNatClampNeg)]) (rest := [_]) ⟨hx, hb, hml, hown, hts⟩ hK hw hA (kX11_as l D g ad1 τ (xs (nI i + nI 1).toNatClampNeg) (xs (nI i + nI 2).toNatClampNeg) (r, τ') e2) (zcwV 2 hts zgoodTbl zw_1196 zw_1197 zw_1198 zw_64 zw_1199 rfl rfl hX11_as ⟨Nat.le_of_ble_eq_true rfl, Nat.le_of_ble_eq_true rfl⟩) zO1_0 rfl hl.1 rfl (Nat.le_of_ble_eq_true rfl) dL_law_1559 ⟨Nat.le_of_ble_eq_true rfl, Nat.le_of_ble_eq_true rfl⟩ (fun H locs hw => ?_)
  have hw := hw.flip
  refine lv_icmp_eq (tgt := 1616) hx hb dL_law_1562 (by decide) (fun _ => ?_) (fun h => absurd rfl h)
  exact hk _ _ _ _ hI hw
set_option maxHeartbeats 4000000 in
set_option maxRecDepth 100000 in
theorem lc_trace {p : Program} {l : Launch} {e : Env} {s : State} {m : MethodId} {below : List Frame} {meth : Method} {c : Code} {b L i : Nat} {xs : Nat → Int32} {D : va_G} {g : zG} {ad0 ad1 : Nat → Nat} {Q : State → Prop} (C : lwC p s m c b L i xs D g) {σ τ : zSt} {H : Heap} {locs : List Loc} {ls : Array Slot} (hI : Inv σ τ) (hw : zL2 D g 0 ad0 (fun q => s.heap.size ≤ q) s.heap σ (zW g 1 ad1 τ) H locs) (hl : lv_has ls 4 [(0, .ref b), (1, .ref (ad0 0)), (2, .ref (ad1 0)), (3, .int (nI i))]) (hk : ∀ (σ τ : zSt) (H : Heap) (locs : List Loc), Inv σ τ → zL2 D g 0 ad0 (fun q => s.heap.size ≤ q) s.heap σ (zW g 1 ad1 τ) H locs → W p l e room_1 s m #[.ref b] below meth c H locs 101 14404 Q (F0 m 1616 ls [])) : W p l e room_1 s m #[.ref b] below meth c H locs 101 14404 Q (F0 m 1567 ls []) := by
  obtain ⟨hx, hb, hml, hown, hts, hK, hX, hbl, hi, hL⟩ := C
  have hA : ∀ q : Nat, s.heap.size ≤ q → (fun q : Nat => s.heap.size ≤ q) q := fun _ h => h
  have hbA : ¬ (fun q : Nat => s.heap.size ≤ q) b := Nat.not_le.mpr hbl
  have e1 := q_trace hI
  refine lv_aload_n hx hb dL_law_1567 rfl (lv_at hl 1 rfl) ?_
  refine z_l2i (b := 0) (As := []) (rest := []) ⟨hx, hb, hml, hown, hts⟩ hK hw hA (kX10_trace l D g ad0 σ _ rfl) (zcwV 0 hts zgoodTbl zw_820 zw_821 zw_822 zw_52 zw_823 rfl rfl hX10_trace ⟨Nat.le_of_ble_eq_true rfl, Nat.le_of_ble_eq_true rfl⟩) zO0_0 rfl hl.1 rfl (Nat.le_of_ble_eq_true rfl) dL_law_1568 ⟨Nat.le_of_ble_eq_true rfl, Nat.le_of_ble_eq_true rfl⟩ (fun H locs hw => ?_)
  have hw := hw.flip
  refine lv_aload_n hx hb dL_law_1571 rfl (lv_at hl 2 rfl) ?_
  refine z_l2i (b := 0) (As := []) (rest := [_]) ⟨hx, hb, hml, hown, hts⟩ hK hw hA (kX11_trace l D g ad1 τ _ rfl) (zcwV 0 hts zgoodTbl zw_1200 zw_1201 zw_1202 zw_64 zw_1203 rfl rfl hX11_trace ⟨Nat.le_of_ble_eq_true rfl, Nat.le_of_ble_eq_true rfl⟩) zO1_0 rfl hl.1 rfl (Nat.le_of_ble_eq_true rfl) dL_law_1572 ⟨Nat.le_of_ble_eq_true rfl, Nat.le_of_ble_eq_true rfl⟩ (fun H locs hw => ?_)
  have hw := hw.flip
  refine lv_icmp_eq (tgt := 1616) hx hb dL_law_1575 (by decide) (fun _ => ?_) (fun h => absurd e1 h)
  exact hk _ _ _ _ hI hw
set_option maxHeartbeats 4000000 in
set_option maxRecDepth 100000 in
theorem lc_fault {p : Program} {l : Launch} {e : Env} {s : State} {m : MethodId} {below : List Frame} {meth : Method} {c : Code} {b L i : Nat} {xs : Nat → Int32} {D : va_G} {g : zG} {ad0 ad1 : Nat → Nat} {Q : State → Prop} (C : lwC p s m c b L i xs D g) {σ τ : zSt} {H : Heap} {locs : List Loc} {ls : Array Slot} (hI : Inv σ τ) (hw : zL2 D g 0 ad0 (fun q => s.heap.size ≤ q) s.heap σ (zW g 1 ad1 τ) H locs) (hl : lv_has ls 4 [(0, .ref b), (1, .ref (ad0 0)), (2, .ref (ad1 0)), (3, .int (nI i))]) (hk : ∀ (σ τ : zSt) (H : Heap) (locs : List Loc), Inv σ τ → zL2 D g 0 ad0 (fun q => s.heap.size ≤ q) s.heap σ (zW g 1 ad1 τ) H locs → W p l e room_1 s m #[.ref b] below meth c H locs 101 14404 Q (F0 m 1616 ls [])) : W p l e room_1 s m #[.ref b] below meth c H locs 101 14404 Q (F0 m 1580 ls []) := by
  obtain ⟨hx, hb, hml, hown, hts, hK, hX, hbl, hi, hL⟩ := C
  have hA : ∀ q : Nat, s.heap.size ≤ q → (fun q : Nat => s.heap.size ≤ q) q := fun _ h => h
  have hbA : ¬ (fun q : Nat => s.heap.size ≤ q) b := Nat.not_le.mpr hbl
  have e1 := q_fault hI
  refine lv_aload_n hx hb dL_law_1580 rfl (lv_at hl 1 rfl) ?_
  refine z_l2i (b := 0) (As := []) (rest := []) ⟨hx, hb, hml, hown, hts⟩ hK hw hA (kX10_fault l D g ad0 σ _ rfl) (zcwV 0 hts zgoodTbl zw_824 zw_825 zw_826 zw_52 zw_827 rfl rfl hX10_fault ⟨Nat.le_of_ble_eq_true rfl, Nat.le_of_ble_eq_true rfl⟩) zO0_0 rfl hl.1 rfl (Nat.le_of_ble_eq_true rfl) dL_law_1581 ⟨Nat.le_of_ble_eq_true rfl, Nat.le_of_ble_eq_true rfl⟩ (fun H locs hw => ?_)
  have hw := hw.flip
  refine lv_aload_n hx hb dL_law_1584 rfl (lv_at hl 2 rfl) ?_
  refine z_l2i (b := 0) (As := []) (rest := [_]) ⟨hx, hb, hml, hown, hts⟩ hK hw hA (kX11_fault l D g ad1 τ _ rfl) (zcwV 0 hts zgoodTbl zw_1204 zw_1205 zw_1206 zw_64 zw_1207 rfl rfl hX11_fault ⟨Nat.le_of_ble_eq_true rfl, Nat.le_of_ble_eq_true rfl⟩) zO1_0 rfl hl.1 rfl (Nat.le_of_ble_eq_true rfl) dL_law_1585 ⟨Nat.le_of_ble_eq_true rfl, Nat.le_of_ble_eq_true rfl⟩ (fun H locs hw => ?_)
  have hw := hw.flip
  refine lv_icmp_eq (tgt := 1616) hx hb dL_law_1588 (by decide) (fun _ => ?_) (fun h => absurd e1 h)
  exact hk _ _ _ _ hI hw
set_option maxHeartbeats 4000000 in
set_option maxRecDepth 100000 in
theorem lc_many {p : Program} {l : Launch} {e : Env} {s : State} {m : MethodId} {below : List Frame} {meth : Method} {c : Code} {b L i : Nat} {xs : Nat → Int32} {D : va_G} {g : zG} {ad0 ad1 : Nat → Nat} {Q : State → Prop} (C : lwC p s m c b L i xs D g) {σ τ : zSt} {H : Heap} {locs : List Loc} {ls : Array Slot} (hI : Inv σ τ) (hw : zL2 D g 0 ad0 (fun q => s.heap.size ≤ q) s.heap σ (zW g 1 ad1 τ) H locs) (hl : lv_has ls 4 [(0, .ref b), (1, .ref (ad0 0)), (2, .ref (ad1 0)), (3, .int (nI i))]) (hk : ∀ (σ τ : zSt) (H : Heap) (locs : List Loc), Inv σ τ → zL2 D g 0 ad0 (fun q => s.heap.size ≤ q) s.heap σ (zW g 1 ad1 τ) H locs → W p l e room_1 s m #[.ref b] below meth c H locs 101 14404 Q (F0 m 1616 ls [])) : W p l e room_1 s m #[.ref b] below meth c H locs 101 14404 Q (F0 m 1593 ls []) := by
  obtain ⟨hx, hb, hml, hown, hts, hK, hX, hbl, hi, hL⟩ := C
  have hA : ∀ q : Nat, s.heap.size ≤ q → (fun q : Nat => s.heap.size ≤ q) q := fun _ h => h
  have hbA : ¬ (fun q : Nat => s.heap.size ≤ q) b := Nat.not_le.mpr hbl
  have v1 := lw_in (a := 1) hi hL (by decide)
  have e1 := q_many hI (xs (nI i + nI 1).toNatClampNeg)
  refine lv_aload_n hx hb dL_law_1593 rfl (lv_at hl 1 rfl) ?_
  refine lv_aload_n hx hb dL_law_1594 rfl (lv_at hl 0 rfl) ?_
  refine lv_iload_n hx hb dL_law_1595 rfl (lv_at hl 3 rfl) ?_
  refine lv_iconst (v := nI 1) hx hb dL_law_1596 (by decide) ?_
  refine lv_iadd hx hb dL_law_1597 ?_
  refine va_sld hx hb hX hbl hbA hw.2.2.2 v1 dL_law_1598 ?_
  refine z_l2i (b := 0) (As := [.int (xs (nI i + nI 1).toNatClampNeg)]) (rest := []) ⟨hx, hb, hml, hown, hts⟩ hK hw hA (kX10_many l D g ad0 σ (xs (nI i + nI 1).toNatClampNeg) _ rfl) (zcwV 1 hts zgoodTbl zw_828 zw_829 zw_830 zw_52 zw_831 rfl rfl hX10_many ⟨Nat.le_of_ble_eq_true rfl, Nat.le_of_ble_eq_true rfl⟩) zO0_0 rfl hl.1 rfl (Nat.le_of_ble_eq_true rfl) dL_law_1599 ⟨Nat.le_of_ble_eq_true rfl, Nat.le_of_ble_eq_true rfl⟩ (fun H locs hw => ?_)
  have hw := hw.flip
  refine lv_aload_n hx hb dL_law_1602 rfl (lv_at hl 2 rfl) ?_
  refine lv_aload_n hx hb dL_law_1603 rfl (lv_at hl 0 rfl) ?_
  refine lv_iload_n hx hb dL_law_1604 rfl (lv_at hl 3 rfl) ?_
  refine lv_iconst (v := nI 1) hx hb dL_law_1605 (by decide) ?_
  refine lv_iadd hx hb dL_law_1606 ?_
  refine va_sld hx hb hX hbl hbA hw.2.2.2 v1 dL_law_1607 ?_
  refine z_l2i (b := 0) (As := [.int (xs (nI i + nI 1).toNatClampNeg)]) (rest := [_]) ⟨hx, hb, hml, hown, hts⟩ hK hw hA (kX11_many l D g ad1 τ (xs (nI i + nI 1).toNatClampNeg) _ rfl) (zcwV 1 hts zgoodTbl zw_1208 zw_1209 zw_1210 zw_64 zw_1211 rfl rfl hX11_many ⟨Nat.le_of_ble_eq_true rfl, Nat.le_of_ble_eq_true rfl⟩) zO1_0 rfl hl.1 rfl (Nat.le_of_ble_eq_true rfl) dL_law_1608 ⟨Nat.le_of_ble_eq_true rfl, Nat.le_of_ble_eq_true rfl⟩ (fun H locs hw => ?_)
  have hw := hw.flip
  refine lv_icmp_eq (tgt := 1616) hx hb dL_law_1611 (by decide) (fun _ => ?_) (fun h => absurd e1 h)
  exact hk _ _ _ _ hI hw
