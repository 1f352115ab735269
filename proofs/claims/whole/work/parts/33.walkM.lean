/-! walks: X11_layLeast, X11_shifts, X11_isOrder, X11_held, X11_booth -/
set_option maxHeartbeats 4000000 in
set_option maxRecDepth 100000 in
theorem wX11_layLeast_2 {p : Program} {l : Launch} {e : Env} {s : State} {m : MethodId} {args : Array Value} {below : List Frame} {meth : Method} {c : Code} {A : Nat → Prop} {H0 : Heap} {Q : State → Prop} {D : va_G} {g : zG} {ad : Nat → Nat} (C : zCx p c cX11_layLeast s args RX11 m 9 A H0 D g) (x1 : Int32) (x2 : Int32) (n : Nat) (a : (Int32 × zSt)) (b : (Int32 × zSt)) (h : zLp (fun a => bX11_layLeast_2 x1 x2 a.1 a.2) n a = some b) (hk : ∀ (H : Heap) (locs : List Loc) (ls : Array Slot), zH D g 1 ad A H0 b.2 H locs → lv_has ls 9 [(0, .ref (ad 0)), (1, .int x1), (2, .int x2), (3, .int b.1)] → W p l e (zRm 2) s m args below meth c H locs 0 0 Q (F0 m 30 ls [])) : ∀ (H : Heap) (locs : List Loc) (ls : Array Slot), zH D g 1 ad A H0 a.2 H locs → lv_has ls 9 [(0, .ref (ad 0)), (1, .int x1), (2, .int x2), (3, .int a.1)] → W p l e (zRm 2) s m args below meth c H locs 0 0 Q (F0 m 2 ls []) := by
  obtain ⟨hx, hb, hml, hown, hts, hK, hA⟩ := id C
  refine zLp_walk (P := fun (a : (Int32 × zSt)) => ∀ (H : Heap) (locs : List Loc) (ls : Array Slot), zH D g 1 ad A H0 a.2 H locs → lv_has ls 9 [(0, .ref (ad 0)), (1, .int x1), (2, .int x2), (3, .int a.1)] → W p l e (zRm 2) s m args below meth c H locs 0 0 Q (F0 m 2 ls [])) (E := fun (b' : (Int32 × zSt)) => b' = b) ?_ n a b h rfl
  intro a r h hn he H locs ls hw hl
  obtain ⟨x3, σ⟩ := a
  have h : bX11_layLeast_2 x1 x2 x3 σ = some r := h
  have hl : lv_has ls 9 [(0, .ref (ad 0)), (1, .int x1), (2, .int x2), (3, .int x3)] := hl
  have hw : zH D g 1 ad A H0 σ H locs := hw
  unfold bX11_layLeast_2 at h
  refine lv_iload_n hx hb dX11_layLeast_2 rfl (lv_at hl 3 rfl) ?_
  refine lv_sipush (v := 300) hx hb dX11_layLeast_3 (by decide) ?_
  refine lv_icmp_ge (tgt := 30) hx hb dX11_layLeast_6 (by decide) (fun t1 => ?_) (fun t1 => ?_)
  · rw [if_pos t1] at h
    obtain rfl := Option.some.inj h
    obtain rfl := he _ rfl
    exact hk _ _ _ hw (lv_sub hl [0, 1, 2, 3] rfl)
  · rw [if_neg t1] at h
    refine lv_aload_n hx hb dX11_layLeast_9 rfl (lv_at hl 0 rfl) ?_
    refine z_getc hx hb hts zin_X11 hown hK hw zF1_0_26 (hts _ zw_864) dX11_layLeast_10 ?_
    refine lv_iload_n hx hb dX11_layLeast_13 rfl (lv_at hl 1 rfl) ?_
    refine lv_iconst (v := 0) hx hb dX11_layLeast_14 (by decide) ?_
    refine lv_iconst (v := 0) hx hb dX11_layLeast_15 (by decide) ?_
    refine lv_iconst (v := 0) hx hb dX11_layLeast_16 (by decide) ?_
    refine z_cSi (As := [.int x1, .int (0 : Int32), .int (0 : Int32), .int (0 : Int32)]) (rest := [.ref (ad 17)]) ⟨hx, hb, hml, hown, hts⟩ hK hw hA (kX11_spot l D g ad σ x1 (0 : Int32) (0 : Int32) (0 : Int32) _ rfl) (zcwS 4 hts zgoodIn zw_1139 zw_1140 zw_64 zw_1141 rfl rfl hX11_spot ⟨Nat.le_of_ble_eq_true rfl, Nat.le_of_ble_eq_true rfl⟩) rfl hl.1 rfl (Nat.le_of_ble_eq_true rfl) dX11_layLeast_17 ⟨Nat.zero_le _, Nat.zero_le _⟩ (fun H locs hw => ?_)
    refine lv_iload_n hx hb dX11_layLeast_20 rfl (lv_at hl 3 rfl) ?_
    refine lv_iadd hx hb dX11_layLeast_21 ?_
    refine lv_iconst (v := 0) hx hb dX11_layLeast_22 (by decide) ?_
    obtain ⟨s2, e3, h⟩ := zbind h
    refine z_iast hx hb hK hw e3 dX11_layLeast_23 (fun H locs hw => ?_)
    refine lv_iinc (v := x3 + 1) (lv' := [(3, .int (x3 + 1)), (0, .ref (ad 0)), (1, .int x1), (2, .int x2)]) hx hb dX11_layLeast_24 hl (k := 3) rfl rfl (by decide) rfl (fun ls hl => ?_)
    refine lv_goto (tgt := 2) hx hb dX11_layLeast_27 (by decide) ?_
    obtain rfl := Option.some.inj h
    exact hn _ rfl _ _ _ hw (lv_sub hl [1, 2, 3, 0] rfl)
set_option maxHeartbeats 4000000 in
set_option maxRecDepth 100000 in
theorem wX11_layLeast_61 {p : Program} {l : Launch} {e : Env} {s : State} {m : MethodId} {args : Array Value} {below : List Frame} {meth : Method} {c : Code} {A : Nat → Prop} {H0 : Heap} {Q : State → Prop} {D : va_G} {g : zG} {ad : Nat → Nat} (C : zCx p c cX11_layLeast s args RX11 m 9 A H0 D g) (x2 : Int32) (x3 : Int32) (x4 : Int32) (x5 : Int32) (n : Nat) (a : (Int32 × zSt)) (b : (Int32 × zSt)) (h : zLp (fun a => bX11_layLeast_61 x2 x3 x4 x5 a.1 a.2) n a = some b) (hk : ∀ (H : Heap) (locs : List Loc) (ls : Array Slot), zH D g 1 ad A H0 b.2 H locs → lv_has ls 9 [(0, .ref (ad 0)), (2, .int x2), (3, .int x3), (4, .int x4), (5, .int x5), (6, .int b.1)] → W p l e (zRm 2) s m args below meth c H locs 0 0 Q (F0 m 132 ls [])) : ∀ (H : Heap) (locs : List Loc) (ls : Array Slot), zH D g 1 ad A H0 a.2 H locs → lv_has ls 9 [(0, .ref (ad 0)), (2, .int x2), (3, .int x3), (4, .int x4), (5, .int x5), (6, .int a.1)] → W p l e (zRm 2) s m args below meth c H locs 0 0 Q (F0 m 61 ls []) := by
  obtain ⟨hx, hb, hml, hown, hts, hK, hA⟩ := id C
  refine zLp_walk (P := fun (a : (Int32 × zSt)) => ∀ (H : Heap) (locs : List Loc) (ls : Array Slot), zH D g 1 ad A H0 a.2 H locs → lv_has ls 9 [(0, .ref (ad 0)), (2, .int x2), (3, .int x3), (4, .int x4), (5, .int x5), (6, .int a.1)] → W p l e (zRm 2) s m args below meth c H locs 0 0 Q (F0 m 61 ls [])) (E := fun (b' : (Int32 × zSt)) => b' = b) ?_ n a b h rfl
  intro a r h hn he H locs ls hw hl
  obtain ⟨x6, σ⟩ := a
  have h : bX11_layLeast_61 x2 x3 x4 x5 x6 σ = some r := h
  have hl : lv_has ls 9 [(0, .ref (ad 0)), (2, .int x2), (3, .int x3), (4, .int x4), (5, .int x5), (6, .int x6)] := hl
  have hw : zH D g 1 ad A H0 σ H locs := hw
  unfold bX11_layLeast_61 at h
  refine lv_iload hx hb dX11_layLeast_61 (lv_at hl 5 rfl) ?_
  refine lv_iconst (v := 3) hx hb dX11_layLeast_63 (by decide) ?_
  refine lv_icmp_ge (tgt := 132) hx hb dX11_layLeast_64 (by decide) (fun t1 => ?_) (fun t1 => ?_)
  · rw [if_pos t1] at h
    obtain rfl := Option.some.inj h
    obtain rfl := he _ rfl
    exact hk _ _ _ hw (lv_sub hl [0, 1, 2, 3, 4, 5] rfl)
  · rw [if_neg t1] at h
    refine lv_aload_n hx hb dX11_layLeast_67 rfl (lv_at hl 0 rfl) ?_
    refine lv_iload_n hx hb dX11_layLeast_68 rfl (lv_at hl 2 rfl) ?_
    refine lv_iload hx hb dX11_layLeast_69 (lv_at hl 3 rfl) ?_
    refine lv_iload hx hb dX11_layLeast_71 (lv_at hl 4 rfl) ?_
    refine lv_iload hx hb dX11_layLeast_73 (lv_at hl 5 rfl) ?_
    refine lv_iconst (v := 0) hx hb dX11_layLeast_75 (by decide) ?_
    refine lv_iload_n hx hb dX11_layLeast_76 rfl (lv_at hl 1 rfl) ?_
    obtain ⟨r2, e3, h⟩ := zbind h
    refine z_cVi (As := [.int x3, .int x4, .int x5, .int x6, .int (0 : Int32), .int x2]) (rest := []) ⟨hx, hb, hml, hown, hts⟩ hK hw hA (kX11_costBy l D g ad σ x3 x4 x5 x6 (0 : Int32) x2 r2 e3) (zcwV 6 hts zgoodIn zw_1142 zw_1144 zw_47 zw_64 zw_1145 rfl rfl hX11_costBy ⟨Nat.le_of_ble_eq_true rfl, Nat.le_of_ble_eq_true rfl⟩) zO1_0 rfl hl.1 rfl (Nat.le_of_ble_eq_true rfl) dX11_layLeast_77 ⟨Nat.zero_le _, Nat.zero_le _⟩ (fun H locs hw => ?_)
    refine lv_istore (lv' := [(7, .int r2), (0, .ref (ad 0)), (2, .int x2), (3, .int x3), (4, .int x4), (5, .int x5), (6, .int x6)]) hx hb dX11_layLeast_80 hl (by decide) rfl (fun ls hl => ?_)
    refine lv_aload_n hx hb dX11_layLeast_82 rfl (lv_at hl 1 rfl) ?_
    refine lv_iload_n hx hb dX11_layLeast_83 rfl (lv_at hl 3 rfl) ?_
    refine lv_iload hx hb dX11_layLeast_84 (lv_at hl 4 rfl) ?_
    refine lv_iload hx hb dX11_layLeast_86 (lv_at hl 5 rfl) ?_
    refine lv_iload hx hb dX11_layLeast_88 (lv_at hl 6 rfl) ?_
    refine lv_iconst (v := 1) hx hb dX11_layLeast_90 (by decide) ?_
    refine lv_iload_n hx hb dX11_layLeast_91 rfl (lv_at hl 2 rfl) ?_
    obtain ⟨r4, e5, h⟩ := zbind h
    refine z_cVi (As := [.int x3, .int x4, .int x5, .int x6, .int (1 : Int32), .int x2]) (rest := []) ⟨hx, hb, hml, hown, hts⟩ hK hw hA (kX11_costBy l D g ad σ x3 x4 x5 x6 (1 : Int32) x2 r4 e5) (zcwV 6 hts zgoodIn zw_1142 zw_1144 zw_47 zw_64 zw_1145 rfl rfl hX11_costBy ⟨Nat.le_of_ble_eq_true rfl, Nat.le_of_ble_eq_true rfl⟩) zO1_0 rfl hl.1 rfl (Nat.le_of_ble_eq_true rfl) dX11_layLeast_92 ⟨Nat.zero_le _, Nat.zero_le _⟩ (fun H locs hw => ?_)
    refine lv_istore (lv' := [(8, .int r4), (7, .int r2), (0, .ref (ad 0)), (2, .int x2), (3, .int x3), (4, .int x4), (5, .int x5), (6, .int x6)]) hx hb dX11_layLeast_95 hl (by decide) rfl (fun ls hl => ?_)
    refine lv_aload_n hx hb dX11_layLeast_97 rfl (lv_at hl 2 rfl) ?_
    refine z_getc hx hb hts zin_X11 hown hK hw zF1_0_26 (hts _ zw_864) dX11_layLeast_98 ?_
    refine lv_iload_n hx hb dX11_layLeast_101 rfl (lv_at hl 4 rfl) ?_
    refine lv_iload hx hb dX11_layLeast_102 (lv_at hl 5 rfl) ?_
    refine lv_iload hx hb dX11_layLeast_104 (lv_at hl 6 rfl) ?_
    refine lv_iload hx hb dX11_layLeast_106 (lv_at hl 7 rfl) ?_
    refine z_cSi (As := [.int x3, .int x4, .int x5, .int x6]) (rest := [.ref (ad 17)]) ⟨hx, hb, hml, hown, hts⟩ hK hw hA (kX11_spot l D g ad σ x3 x4 x5 x6 _ rfl) (zcwS 4 hts zgoodIn zw_1139 zw_1140 zw_64 zw_1141 rfl rfl hX11_spot ⟨Nat.le_of_ble_eq_true rfl, Nat.le_of_ble_eq_true rfl⟩) rfl hl.1 rfl (Nat.le_of_ble_eq_true rfl) dX11_layLeast_108 ⟨Nat.zero_le _, Nat.zero_le _⟩ (fun H locs hw => ?_)
    refine lv_iload hx hb dX11_layLeast_111 (lv_at hl 1 rfl) ?_
    refine lv_iload hx hb dX11_layLeast_113 (lv_at hl 0 rfl) ?_
    refine lv_icmp_ge (tgt := 123) hx hb dX11_layLeast_115 (by decide) (fun t6 => ?_) (fun t6 => ?_)
    · rw [if_pos t6] at h
      refine lv_iload hx hb dX11_layLeast_123 (lv_at hl 0 rfl) ?_
      obtain ⟨s7, e8, h⟩ := zbind h
      refine z_iast hx hb hK hw e8 dX11_layLeast_125 (fun H locs hw => ?_)
      refine lv_iinc (v := x6 + 1) (lv' := [(6, .int (x6 + 1)), (8, .int r4), (7, .int r2), (0, .ref (ad 0)), (2, .int x2), (3, .int x3), (4, .int x4), (5, .int x5)]) hx hb dX11_layLeast_126 hl (k := 7) rfl rfl (by decide) rfl (fun ls hl => ?_)
      refine lv_goto (tgt := 61) hx hb dX11_layLeast_129 (by decide) ?_
      obtain rfl := Option.some.inj h
      exact hn _ rfl _ _ _ hw (lv_sub hl [3, 4, 5, 6, 7, 0] rfl)
    · rw [if_neg t6] at h
      refine lv_iload hx hb dX11_layLeast_118 (lv_at hl 1 rfl) ?_
      refine lv_goto (tgt := 125) hx hb dX11_layLeast_120 (by decide) ?_
      obtain ⟨s9, e10, h⟩ := zbind h
      refine z_iast hx hb hK hw e10 dX11_layLeast_125 (fun H locs hw => ?_)
      refine lv_iinc (v := x6 + 1) (lv' := [(6, .int (x6 + 1)), (8, .int r4), (7, .int r2), (0, .ref (ad 0)), (2, .int x2), (3, .int x3), (4, .int x4), (5, .int x5)]) hx hb dX11_layLeast_126 hl (k := 7) rfl rfl (by decide) rfl (fun ls hl => ?_)
      refine lv_goto (tgt := 61) hx hb dX11_layLeast_129 (by decide) ?_
      obtain rfl := Option.some.inj h
      exact hn _ rfl _ _ _ hw (lv_sub hl [3, 4, 5, 6, 7, 0] rfl)
set_option maxHeartbeats 4000000 in
set_option maxRecDepth 100000 in
theorem wX11_layLeast_51 {p : Program} {l : Launch} {e : Env} {s : State} {m : MethodId} {args : Array Value} {below : List Frame} {meth : Method} {c : Code} {A : Nat → Prop} {H0 : Heap} {Q : State → Prop} {D : va_G} {g : zG} {ad : Nat → Nat} (C : zCx p c cX11_layLeast s args RX11 m 9 A H0 D g) (x2 : Int32) (x3 : Int32) (x4 : Int32) (n : Nat) (a : (Int32 × zSt)) (b : (Int32 × zSt)) (h : zLp (fun a => bX11_layLeast_51 x2 x3 x4 a.1 a.2) n a = some b) (hk : ∀ (H : Heap) (locs : List Loc) (ls : Array Slot), zH D g 1 ad A H0 b.2 H locs → lv_has ls 9 [(0, .ref (ad 0)), (2, .int x2), (3, .int x3), (4, .int x4), (5, .int b.1)] → W p l e (zRm 2) s m args below meth c H locs 0 0 Q (F0 m 138 ls [])) : ∀ (H : Heap) (locs : List Loc) (ls : Array Slot), zH D g 1 ad A H0 a.2 H locs → lv_has ls 9 [(0, .ref (ad 0)), (2, .int x2), (3, .int x3), (4, .int x4), (5, .int a.1)] → W p l e (zRm 2) s m args below meth c H locs 0 0 Q (F0 m 51 ls []) := by
  obtain ⟨hx, hb, hml, hown, hts, hK, hA⟩ := id C
  refine zLp_walk (P := fun (a : (Int32 × zSt)) => ∀ (H : Heap) (locs : List Loc) (ls : Array Slot), zH D g 1 ad A H0 a.2 H locs → lv_has ls 9 [(0, .ref (ad 0)), (2, .int x2), (3, .int x3), (4, .int x4), (5, .int a.1)] → W p l e (zRm 2) s m args below meth c H locs 0 0 Q (F0 m 51 ls [])) (E := fun (b' : (Int32 × zSt)) => b' = b) ?_ n a b h rfl
  intro a r h hn he H locs ls hw hl
  obtain ⟨x5, σ⟩ := a
  have h : bX11_layLeast_51 x2 x3 x4 x5 σ = some r := h
  have hl : lv_has ls 9 [(0, .ref (ad 0)), (2, .int x2), (3, .int x3), (4, .int x4), (5, .int x5)] := hl
  have hw : zH D g 1 ad A H0 σ H locs := hw
  unfold bX11_layLeast_51 at h
  refine lv_iload hx hb dX11_layLeast_51 (lv_at hl 4 rfl) ?_
  refine lv_bipush (v := 10) hx hb dX11_layLeast_53 (by decide) ?_
  refine lv_icmp_ge (tgt := 138) hx hb dX11_layLeast_55 (by decide) (fun t1 => ?_) (fun t1 => ?_)
  · rw [if_pos t1] at h
    obtain rfl := Option.some.inj h
    obtain rfl := he _ rfl
    exact hk _ _ _ hw (lv_sub hl [0, 1, 2, 3, 4] rfl)
  · rw [if_neg t1] at h
    refine lv_iconst (v := 0) hx hb dX11_layLeast_58 (by decide) ?_
    refine lv_istore (lv' := [(6, .int (0 : Int32)), (0, .ref (ad 0)), (2, .int x2), (3, .int x3), (4, .int x4), (5, .int x5)]) hx hb dX11_layLeast_59 hl (by decide) rfl (fun ls hl => ?_)
    obtain ⟨b2, e3, h⟩ := zbind h
    refine wX11_layLeast_61 C x2 x3 x4 x5 zFU ((0 : Int32), σ) b2 e3 (fun H locs ls hw hl => ?_) _ _ _ hw (lv_sub hl [1, 2, 3, 4, 5, 0] rfl)
    have hl : lv_has ls 9 [(0, .ref (ad 0)), (2, .int x2), (3, .int x3), (4, .int x4), (5, .int x5), (6, .int b2.1)] := hl
    refine lv_iinc (v := x5 + 1) (lv' := [(5, .int (x5 + 1)), (0, .ref (ad 0)), (2, .int x2), (3, .int x3), (4, .int x4), (6, .int b2.1)]) hx hb dX11_layLeast_132 hl (k := 4) rfl rfl (by decide) rfl (fun ls hl => ?_)
    refine lv_goto (tgt := 51) hx hb dX11_layLeast_135 (by decide) ?_
    obtain rfl := Option.some.inj h
    exact hn _ rfl _ _ _ hw (lv_sub hl [1, 2, 3, 4, 0] rfl)
set_option maxHeartbeats 4000000 in
set_option maxRecDepth 100000 in
theorem wX11_layLeast_41 {p : Program} {l : Launch} {e : Env} {s : State} {m : MethodId} {args : Array Value} {below : List Frame} {meth : Method} {c : Code} {A : Nat → Prop} {H0 : Heap} {Q : State → Prop} {D : va_G} {g : zG} {ad : Nat → Nat} (C : zCx p c cX11_layLeast s args RX11 m 9 A H0 D g) (x2 : Int32) (x3 : Int32) (n : Nat) (a : (Int32 × zSt)) (b : (Int32 × zSt)) (h : zLp (fun a => bX11_layLeast_41 x2 x3 a.1 a.2) n a = some b) (hk : ∀ (H : Heap) (locs : List Loc) (ls : Array Slot), zH D g 1 ad A H0 b.2 H locs → lv_has ls 9 [(0, .ref (ad 0)), (2, .int x2), (3, .int x3), (4, .int b.1)] → W p l e (zRm 2) s m args below meth c H locs 0 0 Q (F0 m 144 ls [])) : ∀ (H : Heap) (locs : List Loc) (ls : Array Slot), zH D g 1 ad A H0 a.2 H locs → lv_has ls 9 [(0, .ref (ad 0)), (2, .int x2), (3, .int x3), (4, .int a.1)] → W p l e (zRm 2) s m args below meth c H locs 0 0 Q (F0 m 41 ls []) := by
  obtain ⟨hx, hb, hml, hown, hts, hK, hA⟩ := id C
  refine zLp_walk (P := fun (a : (Int32 × zSt)) => ∀ (H : Heap) (locs : List Loc) (ls : Array Slot), zH D g 1 ad A H0 a.2 H locs → lv_has ls 9 [(0, .ref (ad 0)), (2, .int x2), (3, .int x3), (4, .int a.1)] → W p l e (zRm 2) s m args below meth c H locs 0 0 Q (F0 m 41 ls [])) (E := fun (b' : (Int32 × zSt)) => b' = b) ?_ n a b h rfl
  intro a r h hn he H locs ls hw hl
  obtain ⟨x4, σ⟩ := a
  have h : bX11_layLeast_41 x2 x3 x4 σ = some r := h
  have hl : lv_has ls 9 [(0, .ref (ad 0)), (2, .int x2), (3, .int x3), (4, .int x4)] := hl
  have hw : zH D g 1 ad A H0 σ H locs := hw
  unfold bX11_layLeast_41 at h
  refine lv_iload hx hb dX11_layLeast_41 (lv_at hl 3 rfl) ?_
  refine lv_bipush (v := 10) hx hb dX11_layLeast_43 (by decide) ?_
  refine lv_icmp_ge (tgt := 144) hx hb dX11_layLeast_45 (by decide) (fun t1 => ?_) (fun t1 => ?_)
  · rw [if_pos t1] at h
    obtain rfl := Option.some.inj h
    obtain rfl := he _ rfl
    exact hk _ _ _ hw (lv_sub hl [0, 1, 2, 3] rfl)
  · rw [if_neg t1] at h
    refine lv_iconst (v := 0) hx hb dX11_layLeast_48 (by decide) ?_
    refine lv_istore (lv' := [(5, .int (0 : Int32)), (0, .ref (ad 0)), (2, .int x2), (3, .int x3), (4, .int x4)]) hx hb dX11_layLeast_49 hl (by decide) rfl (fun ls hl => ?_)
    obtain ⟨b2, e3, h⟩ := zbind h
    refine wX11_layLeast_51 C x2 x3 x4 zFU ((0 : Int32), σ) b2 e3 (fun H locs ls hw hl => ?_) _ _ _ hw (lv_sub hl [1, 2, 3, 4, 0] rfl)
    have hl : lv_has ls 9 [(0, .ref (ad 0)), (2, .int x2), (3, .int x3), (4, .int x4), (5, .int b2.1)] := hl
    refine lv_iinc (v := x4 + 1) (lv' := [(4, .int (x4 + 1)), (0, .ref (ad 0)), (2, .int x2), (3, .int x3), (5, .int b2.1)]) hx hb dX11_layLeast_138 hl (k := 3) rfl rfl (by decide) rfl (fun ls hl => ?_)
    refine lv_goto (tgt := 41) hx hb dX11_layLeast_141 (by decide) ?_
    obtain rfl := Option.some.inj h
    exact hn _ rfl _ _ _ hw (lv_sub hl [1, 2, 3, 0] rfl)
set_option maxHeartbeats 4000000 in
set_option maxRecDepth 100000 in
theorem wX11_layLeast_34 {p : Program} {l : Launch} {e : Env} {s : State} {m : MethodId} {args : Array Value} {below : List Frame} {meth : Method} {c : Code} {A : Nat → Prop} {H0 : Heap} {Q : State → Prop} {D : va_G} {g : zG} {ad : Nat → Nat} (C : zCx p c cX11_layLeast s args RX11 m 9 A H0 D g) (x2 : Int32) (n : Nat) (a : (Int32 × zSt)) (b : (Int32 × zSt)) (h : zLp (fun a => bX11_layLeast_34 x2 a.1 a.2) n a = some b) (hk : ∀ (H : Heap) (locs : List Loc) (ls : Array Slot), zH D g 1 ad A H0 b.2 H locs → lv_has ls 9 [(0, .ref (ad 0)), (2, .int x2), (3, .int b.1)] → W p l e (zRm 2) s m args below meth c H locs 0 0 Q (F0 m 150 ls [])) : ∀ (H : Heap) (locs : List Loc) (ls : Array Slot), zH D g 1 ad A H0 a.2 H locs → lv_has ls 9 [(0, .ref (ad 0)), (2, .int x2), (3, .int a.1)] → W p l e (zRm 2) s m args below meth c H locs 0 0 Q (F0 m 34 ls []) := by
  obtain ⟨hx, hb, hml, hown, hts, hK, hA⟩ := id C
  refine zLp_walk (P := fun (a : (Int32 × zSt)) => ∀ (H : Heap) (locs : List Loc) (ls : Array Slot), zH D g 1 ad A H0 a.2 H locs → lv_has ls 9 [(0, .ref (ad 0)), (2, .int x2), (3, .int a.1)] → W p l e (zRm 2) s m args below meth c H locs 0 0 Q (F0 m 34 ls [])) (E := fun (b' : (Int32 × zSt)) => b' = b) ?_ n a b h rfl
  intro a r h hn he H locs ls hw hl
  obtain ⟨x3, σ⟩ := a
  have h : bX11_layLeast_34 x2 x3 σ = some r := h
  have hl : lv_has ls 9 [(0, .ref (ad 0)), (2, .int x2), (3, .int x3)] := hl
  have hw : zH D g 1 ad A H0 σ H locs := hw
  unfold bX11_layLeast_34 at h
  refine lv_iload_n hx hb dX11_layLeast_34 rfl (lv_at hl 2 rfl) ?_
  refine lv_if_lt (tgt := 150) hx hb dX11_layLeast_35 (by decide) (fun t1 => ?_) (fun t1 => ?_)
  · rw [if_pos t1] at h
    obtain rfl := Option.some.inj h
    obtain rfl := he _ rfl
    exact hk _ _ _ hw (lv_sub hl [0, 1, 2] rfl)
  · rw [if_neg t1] at h
    refine lv_iconst (v := 0) hx hb dX11_layLeast_38 (by decide) ?_
    refine lv_istore (lv' := [(4, .int (0 : Int32)), (0, .ref (ad 0)), (2, .int x2), (3, .int x3)]) hx hb dX11_layLeast_39 hl (by decide) rfl (fun ls hl => ?_)
    obtain ⟨b2, e3, h⟩ := zbind h
    refine wX11_layLeast_41 C x2 x3 zFU ((0 : Int32), σ) b2 e3 (fun H locs ls hw hl => ?_) _ _ _ hw (lv_sub hl [1, 2, 3, 0] rfl)
    have hl : lv_has ls 9 [(0, .ref (ad 0)), (2, .int x2), (3, .int x3), (4, .int b2.1)] := hl
    refine lv_iinc (v := x3 + (-1)) (lv' := [(3, .int (x3 + (-1))), (0, .ref (ad 0)), (2, .int x2), (4, .int b2.1)]) hx hb dX11_layLeast_144 hl (k := 2) rfl rfl (by decide) rfl (fun ls hl => ?_)
    refine lv_goto (tgt := 34) hx hb dX11_layLeast_147 (by decide) ?_
    obtain rfl := Option.some.inj h
    exact hn _ rfl _ _ _ hw (lv_sub hl [1, 2, 0] rfl)
theorem hX11_layLeast : yX11_layLeast.cls = RX11 ∧ yX11_layLeast.cls ≠ "java/lang/invoke/MethodHandle" ∧ yX11_layLeast.cls ≠ "java/lang/invoke/VarHandle" ∧ (parseMethodDescriptor yX11_layLeast.desc).map (fun d => d.parameters.length) = some 2 := by decide +kernel
set_option maxHeartbeats 4000000 in
set_option maxRecDepth 100000 in
theorem kX11_layLeast (l : Launch) (D : va_G) (g : zG) (ad : Nat → Nat) (σ : zSt) (x1 : Int32) (x2 : Int32) (o : zSt) (h : fX11_layLeast σ x1 x2 = some o) : zMv l D g 1 ad yX11_layLeast (Cond.code yX11_layLeast cX11_layLeast 9 (none : Option Jvm.ClassFile.FieldType) :: zws) (zRm 2) [.ref (ad 0), .int x1, .int x2] σ o := by
  refine z_enter_v (by decide) (Nat.le_of_ble_eq_true rfl) ?_
  intro p e s m below meth c A ls Q C hw hl hret
  obtain ⟨hx, hb, hml, hown, hts, hK, hA⟩ := id C
  have hown : s.vm.findClass RX11 = some m.cls := hown
  have C : zCx p c cX11_layLeast s _ RX11 m 9 A s.heap D g := C
  have hl : lv_has ls 9 [(0, .ref (ad 0)), (1, .int x1), (2, .int x2)] := hl
  unfold fX11_layLeast at h
  refine lv_iconst (v := 0) hx hb dX11_layLeast_0 (by decide) ?_
  refine lv_istore_n (lv' := [(3, .int (0 : Int32)), (0, .ref (ad 0)), (1, .int x1), (2, .int x2)]) hx hb dX11_layLeast_1 rfl hl (by decide) rfl (fun ls hl => ?_)
  obtain ⟨b1, e2, h⟩ := zbind h
  refine wX11_layLeast_2 C x1 x2 zFU ((0 : Int32), σ) b1 e2 (fun H locs ls hw hl => ?_) _ _ _ hw (lv_sub hl [1, 2, 3, 0] rfl)
  have hl : lv_has ls 9 [(0, .ref (ad 0)), (1, .int x1), (2, .int x2), (3, .int b1.1)] := hl
  refine lv_iload_n hx hb dX11_layLeast_30 rfl (lv_at hl 1 rfl) ?_
  refine lv_iconst (v := 1) hx hb dX11_layLeast_31 (by decide) ?_
  refine lv_isub hx hb dX11_layLeast_32 ?_
  refine lv_istore_n (lv' := [(3, .int (x1 - (1 : Int32))), (0, .ref (ad 0)), (1, .int x1), (2, .int x2)]) hx hb dX11_layLeast_33 rfl hl (by decide) rfl (fun ls hl => ?_)
  obtain ⟨b3, e4, h⟩ := zbind h
  refine wX11_layLeast_34 C x2 zFU (x1 - (1 : Int32), b1.2) b3 e4 (fun H locs ls hw hl => ?_) _ _ _ hw (lv_sub hl [1, 3, 0] rfl)
  have hl : lv_has ls 9 [(0, .ref (ad 0)), (2, .int x2), (3, .int b3.1)] := hl
  obtain rfl := Option.some.inj h
  exact hret _ _ _ _ hw dX11_layLeast_150
set_option maxHeartbeats 4000000 in
set_option maxRecDepth 100000 in
theorem wX11_shifts_112 {p : Program} {l : Launch} {e : Env} {s : State} {m : MethodId} {args : Array Value} {below : List Frame} {meth : Method} {c : Code} {A : Nat → Prop} {H0 : Heap} {Q : State → Prop} {D : va_G} {g : zG} {ad : Nat → Nat} (C : zCx p c cX11_shifts s args RX11 m 11 A H0 D g) (σ : zSt) (x4 : Int32) (x5 : Int32) (n : Nat) (a : (Int32 × Int32 × Int32 × Int32)) (b : (Int32 × Int32 × Int32 × Int32)) (h : zLp (fun a => bX11_shifts_112 σ x4 x5 a.1 a.2.1 a.2.2.1 a.2.2.2) n a = some b) (hk : ∀ (H : Heap) (locs : List Loc) (ls : Array Slot), zH D g 1 ad A H0 σ H locs → lv_has ls 11 [(0, .ref (ad 0)), (4, .int x4), (5, .int x5), (6, .int b.1), (7, .int b.2.1), (8, .int b.2.2.1), (9, .int b.2.2.2)] → W p l e (zRm 3) s m args below meth c H locs 0 0 Q (F0 m 211 ls [])) : ∀ (H : Heap) (locs : List Loc) (ls : Array Slot), zH D g 1 ad A H0 σ H locs → lv_has ls 11 [(0, .ref (ad 0)), (4, .int x4), (5, .int x5), (6, .int a.1), (7, .int a.2.1), (8, .int a.2.2.1), (9, .int a.2.2.2)] → W p l e (zRm 3) s m args below meth c H locs 0 0 Q (F0 m 112 ls []) := by
  obtain ⟨hx, hb, hml, hown, hts, hK, hA⟩ := id C
  refine zLp_walk (P := fun (a : (Int32 × Int32 × Int32 × Int32)) => ∀ (H : Heap) (locs : List Loc) (ls : Array Slot), zH D g 1 ad A H0 σ H locs → lv_has ls 11 [(0, .ref (ad 0)), (4, .int x4), (5, .int x5), (6, .int a.1), (7, .int a.2.1), (8, .int a.2.2.1), (9, .int a.2.2.2)] → W p l e (zRm 3) s m args below meth c H locs 0 0 Q (F0 m 112 ls [])) (E := fun (b' : (Int32 × Int32 × Int32 × Int32)) => b' = b) ?_ n a b h rfl
  intro a r h hn he H locs ls hw hl
  obtain ⟨x6, x7, x8, x9⟩ := a
  have h : bX11_shifts_112 σ x4 x5 x6 x7 x8 x9 = some r := h
  have hl : lv_has ls 11 [(0, .ref (ad 0)), (4, .int x4), (5, .int x5), (6, .int x6), (7, .int x7), (8, .int x8), (9, .int x9)] := hl
  have hw : zH D g 1 ad A H0 σ H locs := hw
  unfold bX11_shifts_112 at h
  refine lv_iload hx hb dX11_shifts_112 (lv_at hl 6 rfl) ?_
  refine lv_iload hx hb dX11_shifts_114 (lv_at hl 2 rfl) ?_
  refine lv_icmp_gt (tgt := 211) hx hb dX11_shifts_116 (by decide) (fun t1 => ?_) (fun t1 => ?_)
  · rw [if_pos t1] at h
    obtain rfl := Option.some.inj h
    obtain rfl := he _ rfl
    exact hk _ _ _ hw (lv_sub hl [0, 1, 2, 3, 4, 5, 6] rfl)
  · rw [if_neg t1] at h
    refine lv_aload_n hx hb dX11_shifts_119 rfl (lv_at hl 0 rfl) ?_
    refine lv_iload hx hb dX11_shifts_120 (lv_at hl 6 rfl) ?_
    refine lv_iload hx hb dX11_shifts_122 (lv_at hl 3 rfl) ?_
    refine lv_iload hx hb dX11_shifts_124 (lv_at hl 4 rfl) ?_
    refine lv_iload hx hb dX11_shifts_126 (lv_at hl 5 rfl) ?_
    refine lv_iconst (v := 0) hx hb dX11_shifts_128 (by decide) ?_
    refine lv_iload hx hb dX11_shifts_129 (lv_at hl 1 rfl) ?_
    obtain ⟨r2, e3, h⟩ := zbind h
    refine z_cVi (As := [.int x9, .int x6, .int x7, .int x8, .int (0 : Int32), .int x4]) (rest := []) ⟨hx, hb, hml, hown, hts⟩ hK hw hA (kX11_costBy l D g ad σ x9 x6 x7 x8 (0 : Int32) x4 r2 e3) (zcwV 6 hts zgoodIn zw_1142 zw_1144 zw_47 zw_64 zw_1145 rfl rfl hX11_costBy ⟨Nat.le_of_ble_eq_true rfl, Nat.le_of_ble_eq_true rfl⟩) zO1_0 rfl hl.1 rfl (Nat.le_of_ble_eq_true rfl) dX11_shifts_131 ⟨Nat.zero_le _, Nat.zero_le _⟩ (fun H locs hw => ?_)
    refine lv_aload_n hx hb dX11_shifts_134 rfl (lv_at hl 0 rfl) ?_
    refine z_getc hx hb hts zin_X11 hown hK hw zF1_0_26 (hts _ zw_864) dX11_shifts_135 ?_
    refine lv_iload hx hb dX11_shifts_138 (lv_at hl 6 rfl) ?_
    refine lv_iload hx hb dX11_shifts_140 (lv_at hl 3 rfl) ?_
    refine lv_iload hx hb dX11_shifts_142 (lv_at hl 4 rfl) ?_
    refine lv_iload hx hb dX11_shifts_144 (lv_at hl 5 rfl) ?_
    refine z_cSi (As := [.int x9, .int x6, .int x7, .int x8]) (rest := [.ref (ad 17), .int r2]) ⟨hx, hb, hml, hown, hts⟩ hK hw hA (kX11_spot l D g ad σ x9 x6 x7 x8 _ rfl) (zcwS 4 hts zgoodIn zw_1139 zw_1140 zw_64 zw_1141 rfl rfl hX11_spot ⟨Nat.le_of_ble_eq_true rfl, Nat.le_of_ble_eq_true rfl⟩) rfl hl.1 rfl (Nat.le_of_ble_eq_true rfl) dX11_shifts_146 ⟨Nat.zero_le _, Nat.zero_le _⟩ (fun H locs hw => ?_)
    obtain ⟨v4, e5, h⟩ := zbind h
    refine z_iald hx hb hK hw e5 dX11_shifts_149 ?_
    refine lv_icmp_ne (tgt := 157) hx hb dX11_shifts_150 (by decide) (fun t6 => ?_) (fun t6 => ?_)
    · rw [if_neg t6] at h
      refine lv_iconst (v := 1) hx hb dX11_shifts_157 (by decide) ?_
      refine lv_istore (lv' := [(10, .int (1 : Int32)), (0, .ref (ad 0)), (4, .int x4), (5, .int x5), (6, .int x6), (7, .int x7), (8, .int x8), (9, .int x9)]) hx hb dX11_shifts_158 hl (by decide) rfl (fun ls hl => ?_)
      refine lv_iload hx hb dX11_shifts_160 (lv_at hl 0 rfl) ?_
      refine lv_if_ne (tgt := 173) hx hb dX11_shifts_162 (by decide) (fun t7 => ?_) (fun t7 => ?_)
      · refine lv_iload hx hb dX11_shifts_173 (lv_at hl 4 rfl) ?_
        refine z_cSi (As := [.int x6]) (rest := []) ⟨hx, hb, hml, hown, hts⟩ hK hw hA (kX11_less l D g ad σ x6 _ rfl) (zcwS 1 hts zgoodIn zw_1149 zw_1150 zw_64 zw_1151 rfl rfl hX11_less ⟨Nat.le_of_ble_eq_true rfl, Nat.le_of_ble_eq_true rfl⟩) rfl hl.1 rfl (Nat.le_of_ble_eq_true rfl) dX11_shifts_175 ⟨Nat.zero_le _, Nat.zero_le _⟩ (fun H locs hw => ?_)
        refine lv_istore (lv' := [(6, .int (fX11_less x6)), (10, .int (1 : Int32)), (0, .ref (ad 0)), (4, .int x4), (5, .int x5), (7, .int x7), (8, .int x8), (9, .int x9)]) hx hb dX11_shifts_178 hl (by decide) rfl (fun ls hl => ?_)
        refine lv_iload hx hb dX11_shifts_180 (lv_at hl 1 rfl) ?_
        refine lv_iconst (v := 1) hx hb dX11_shifts_182 (by decide) ?_
        refine lv_icmp_ne (tgt := 194) hx hb dX11_shifts_183 (by decide) (fun t8 => ?_) (fun t8 => ?_)
        · exact absurd t8 (by decide)
        · refine lv_iload hx hb dX11_shifts_186 (lv_at hl 5 rfl) ?_
          refine z_cSi (As := [.int x7]) (rest := []) ⟨hx, hb, hml, hown, hts⟩ hK hw hA (kX11_more l D g ad σ x7 _ rfl) (zcwS 1 hts zgoodIn zw_1146 zw_1147 zw_64 zw_1148 rfl rfl hX11_more ⟨Nat.le_of_ble_eq_true rfl, Nat.le_of_ble_eq_true rfl⟩) rfl hl.1 rfl (Nat.le_of_ble_eq_true rfl) dX11_shifts_188 ⟨Nat.zero_le _, Nat.zero_le _⟩ (fun H locs hw => ?_)
          refine lv_goto (tgt := 199) hx hb dX11_shifts_191 (by decide) ?_
          refine lv_istore (lv' := [(7, .int (fX11_more x7)), (6, .int (fX11_less x6)), (10, .int (1 : Int32)), (0, .ref (ad 0)), (4, .int x4), (5, .int x5), (8, .int x8), (9, .int x9)]) hx hb dX11_shifts_199 hl (by decide) rfl (fun ls hl => ?_)
          refine lv_iload hx hb dX11_shifts_201 (lv_at hl 2 rfl) ?_
          refine lv_istore (lv' := [(8, .int (1 : Int32)), (7, .int (fX11_more x7)), (6, .int (fX11_less x6)), (10, .int (1 : Int32)), (0, .ref (ad 0)), (4, .int x4), (5, .int x5), (9, .int x9)]) hx hb dX11_shifts_203 hl (by decide) rfl (fun ls hl => ?_)
          refine lv_iinc (v := x9 + 1) (lv' := [(9, .int (x9 + 1)), (8, .int (1 : Int32)), (7, .int (fX11_more x7)), (6, .int (fX11_less x6)), (10, .int (1 : Int32)), (0, .ref (ad 0)), (4, .int x4), (5, .int x5)]) hx hb dX11_shifts_205 hl (k := 7) rfl rfl (by decide) rfl (fun ls hl => ?_)
          refine lv_goto (tgt := 112) hx hb dX11_shifts_208 (by decide) ?_
          obtain rfl := Option.some.inj h
          exact hn _ rfl _ _ _ hw (lv_sub hl [5, 6, 7, 3, 2, 1, 0] rfl)
      · exact absurd t7 (by decide)
    · rw [if_pos t6] at h
      refine lv_iconst (v := 0) hx hb dX11_shifts_153 (by decide) ?_
      refine lv_goto (tgt := 158) hx hb dX11_shifts_154 (by decide) ?_
      refine lv_istore (lv' := [(10, .int (0 : Int32)), (0, .ref (ad 0)), (4, .int x4), (5, .int x5), (6, .int x6), (7, .int x7), (8, .int x8), (9, .int x9)]) hx hb dX11_shifts_158 hl (by decide) rfl (fun ls hl => ?_)
      refine lv_iload hx hb dX11_shifts_160 (lv_at hl 0 rfl) ?_
      refine lv_if_ne (tgt := 173) hx hb dX11_shifts_162 (by decide) (fun t9 => ?_) (fun t9 => ?_)
      · exact absurd t9 (by decide)
      · refine lv_iload hx hb dX11_shifts_165 (lv_at hl 4 rfl) ?_
        refine z_cSi (As := [.int x6]) (rest := []) ⟨hx, hb, hml, hown, hts⟩ hK hw hA (kX11_more l D g ad σ x6 _ rfl) (zcwS 1 hts zgoodIn zw_1146 zw_1147 zw_64 zw_1148 rfl rfl hX11_more ⟨Nat.le_of_ble_eq_true rfl, Nat.le_of_ble_eq_true rfl⟩) rfl hl.1 rfl (Nat.le_of_ble_eq_true rfl) dX11_shifts_167 ⟨Nat.zero_le _, Nat.zero_le _⟩ (fun H locs hw => ?_)
        refine lv_goto (tgt := 178) hx hb dX11_shifts_170 (by decide) ?_
        refine lv_istore (lv' := [(6, .int (fX11_more x6)), (10, .int (0 : Int32)), (0, .ref (ad 0)), (4, .int x4), (5, .int x5), (7, .int x7), (8, .int x8), (9, .int x9)]) hx hb dX11_shifts_178 hl (by decide) rfl (fun ls hl => ?_)
        refine lv_iload hx hb dX11_shifts_180 (lv_at hl 1 rfl) ?_
        refine lv_iconst (v := 1) hx hb dX11_shifts_182 (by decide) ?_
        refine lv_icmp_ne (tgt := 194) hx hb dX11_shifts_183 (by decide) (fun t10 => ?_) (fun t10 => ?_)
        · refine lv_iload hx hb dX11_shifts_194 (lv_at hl 5 rfl) ?_
          refine z_cSi (As := [.int x7]) (rest := []) ⟨hx, hb, hml, hown, hts⟩ hK hw hA (kX11_less l D g ad σ x7 _ rfl) (zcwS 1 hts zgoodIn zw_1149 zw_1150 zw_64 zw_1151 rfl rfl hX11_less ⟨Nat.le_of_ble_eq_true rfl, Nat.le_of_ble_eq_true rfl⟩) rfl hl.1 rfl (Nat.le_of_ble_eq_true rfl) dX11_shifts_196 ⟨Nat.zero_le _, Nat.zero_le _⟩ (fun H locs hw => ?_)
          refine lv_istore (lv' := [(7, .int (fX11_less x7)), (6, .int (fX11_more x6)), (10, .int (0 : Int32)), (0, .ref (ad 0)), (4, .int x4), (5, .int x5), (8, .int x8), (9, .int x9)]) hx hb dX11_shifts_199 hl (by decide) rfl (fun ls hl => ?_)
          refine lv_iload hx hb dX11_shifts_201 (lv_at hl 2 rfl) ?_
          refine lv_istore (lv' := [(8, .int (0 : Int32)), (7, .int (fX11_less x7)), (6, .int (fX11_more x6)), (10, .int (0 : Int32)), (0, .ref (ad 0)), (4, .int x4), (5, .int x5), (9, .int x9)]) hx hb dX11_shifts_203 hl (by decide) rfl (fun ls hl => ?_)
          refine lv_iinc (v := x9 + 1) (lv' := [(9, .int (x9 + 1)), (8, .int (0 : Int32)), (7, .int (fX11_less x7)), (6, .int (fX11_more x6)), (10, .int (0 : Int32)), (0, .ref (ad 0)), (4, .int x4), (5, .int x5)]) hx hb dX11_shifts_205 hl (k := 7) rfl rfl (by decide) rfl (fun ls hl => ?_)
          refine lv_goto (tgt := 112) hx hb dX11_shifts_208 (by decide) ?_
          obtain rfl := Option.some.inj h
          exact hn _ rfl _ _ _ hw (lv_sub hl [5, 6, 7, 3, 2, 1, 0] rfl)
        · exact absurd t10 (by decide)
theorem hX11_shifts : yX11_shifts.cls = RX11 ∧ yX11_shifts.cls ≠ "java/lang/invoke/MethodHandle" ∧ yX11_shifts.cls ≠ "java/lang/invoke/VarHandle" ∧ (parseMethodDescriptor yX11_shifts.desc).map (fun d => d.parameters.length) = some 5 := by decide +kernel
set_option maxHeartbeats 4000000 in
set_option maxRecDepth 100000 in
theorem kX11_shifts (l : Launch) (D : va_G) (g : zG) (ad : Nat → Nat) (σ : zSt) (x1 : Int32) (x2 : Int32) (x3 : Int32) (x4 : Int32) (x5 : Int32) (o : Int32 × zSt) (h : fX11_shifts σ x1 x2 x3 x4 x5 = some o) : zMi l D g 1 ad yX11_shifts (Cond.code yX11_shifts cX11_shifts 11 (some .int) :: zws) (zRm 3) [.ref (ad 0), .int x1, .int x2, .int x3, .int x4, .int x5] σ o.1 o.2 := by
  refine z_enter_i (by decide) (Nat.le_of_ble_eq_true rfl) ?_
  intro p e s m below meth c A ls Q C hw hl hret
  obtain ⟨hx, hb, hml, hown, hts, hK, hA⟩ := id C
  have hown : s.vm.findClass RX11 = some m.cls := hown
  have C : zCx p c cX11_shifts s _ RX11 m 11 A s.heap D g := C
  have hl : lv_has ls 11 [(0, .ref (ad 0)), (1, .int x1), (2, .int x2), (3, .int x3), (4, .int x4), (5, .int x5)] := hl
  unfold fX11_shifts at h
  refine lv_aload_n hx hb dX11_shifts_0 rfl (lv_at hl 0 rfl) ?_
  refine lv_iload_n hx hb dX11_shifts_1 rfl (lv_at hl 1 rfl) ?_
  refine z_cVi (As := [.int x1]) (rest := []) ⟨hx, hb, hml, hown, hts⟩ hK hw hA (kX11_isInterpreter l D g ad σ x1 _ rfl) (zcwV 1 hts zgoodIn zw_1001 zw_1003 zw_33 zw_64 zw_1004 rfl rfl hX11_isInterpreter ⟨Nat.le_of_ble_eq_true rfl, Nat.le_of_ble_eq_true rfl⟩) zO1_0 rfl hl.1 rfl (Nat.le_of_ble_eq_true rfl) dX11_shifts_2 ⟨Nat.zero_le _, Nat.zero_le _⟩ (fun H locs hw => ?_)
  refine lv_if_eq (tgt := 21) hx hb dX11_shifts_5 (by decide) (fun t1 => ?_) (fun t1 => ?_)
  · rw [if_pos t1] at h
    refine lv_iconst (v := (-1)) hx hb dX11_shifts_21 (by decide) ?_
    obtain rfl := Option.some.inj h
    exact hret _ _ _ _ hw rfl dX11_shifts_22
  · rw [if_neg t1] at h
    refine lv_aload_n hx hb dX11_shifts_8 rfl (lv_at hl 0 rfl) ?_
    refine lv_iload_n hx hb dX11_shifts_9 rfl (lv_at hl 2 rfl) ?_
    refine z_cVi (As := [.int x2]) (rest := []) ⟨hx, hb, hml, hown, hts⟩ hK hw hA (kX11_isInterpreter l D g ad σ x2 _ rfl) (zcwV 1 hts zgoodIn zw_1001 zw_1003 zw_33 zw_64 zw_1004 rfl rfl hX11_isInterpreter ⟨Nat.le_of_ble_eq_true rfl, Nat.le_of_ble_eq_true rfl⟩) zO1_0 rfl hl.1 rfl (Nat.le_of_ble_eq_true rfl) dX11_shifts_10 ⟨Nat.zero_le _, Nat.zero_le _⟩ (fun H locs hw => ?_)
    refine lv_if_eq (tgt := 21) hx hb dX11_shifts_13 (by decide) (fun t2 => ?_) (fun t2 => ?_)
    · rw [if_pos t2] at h
      refine lv_iconst (v := (-1)) hx hb dX11_shifts_21 (by decide) ?_
      obtain rfl := Option.some.inj h
      exact hret _ _ _ _ hw rfl dX11_shifts_22
    · rw [if_neg t2] at h
      refine lv_iload_n hx hb dX11_shifts_16 rfl (lv_at hl 1 rfl) ?_
      refine lv_iload_n hx hb dX11_shifts_17 rfl (lv_at hl 2 rfl) ?_
      refine lv_icmp_ne (tgt := 23) hx hb dX11_shifts_18 (by decide) (fun t3 => ?_) (fun t3 => ?_)
      · rw [if_neg t3] at h
        refine lv_iload_n hx hb dX11_shifts_23 rfl (lv_at hl 3 rfl) ?_
        refine lv_iconst (v := 1) hx hb dX11_shifts_24 (by decide) ?_
        refine lv_bipush (v := 40) hx hb dX11_shifts_25 (by decide) ?_
        refine z_cSi (As := [.int x3, .int (1 : Int32), .int (40 : Int32)]) (rest := []) ⟨hx, hb, hml, hown, hts⟩ hK hw hA (kX11_within l D g ad σ x3 (1 : Int32) (40 : Int32) _ rfl) (zcwS 3 hts zgoodIn zw_930 zw_931 zw_64 zw_932 rfl rfl hX11_within ⟨Nat.le_of_ble_eq_true rfl, Nat.le_of_ble_eq_true rfl⟩) rfl hl.1 rfl (Nat.le_of_ble_eq_true rfl) dX11_shifts_27 ⟨Nat.zero_le _, Nat.zero_le _⟩ (fun H locs hw => ?_)
        refine lv_if_eq (tgt := 44) hx hb dX11_shifts_30 (by decide) (fun t4 => ?_) (fun t4 => ?_)
        · rw [if_pos t4] at h
          refine lv_bipush (v := (-2)) hx hb dX11_shifts_44 (by decide) ?_
          obtain rfl := Option.some.inj h
          exact hret _ _ _ _ hw rfl dX11_shifts_46
        · rw [if_neg t4] at h
          refine lv_iload hx hb dX11_shifts_33 (lv_at hl 4 rfl) ?_
          refine lv_iconst (v := 0) hx hb dX11_shifts_35 (by decide) ?_
          refine lv_bipush (v := 9) hx hb dX11_shifts_36 (by decide) ?_
          refine z_cSi (As := [.int x4, .int (0 : Int32), .int (9 : Int32)]) (rest := []) ⟨hx, hb, hml, hown, hts⟩ hK hw hA (kX11_within l D g ad σ x4 (0 : Int32) (9 : Int32) _ rfl) (zcwS 3 hts zgoodIn zw_930 zw_931 zw_64 zw_932 rfl rfl hX11_within ⟨Nat.le_of_ble_eq_true rfl, Nat.le_of_ble_eq_true rfl⟩) rfl hl.1 rfl (Nat.le_of_ble_eq_true rfl) dX11_shifts_38 ⟨Nat.zero_le _, Nat.zero_le _⟩ (fun H locs hw => ?_)
          refine lv_if_ne (tgt := 47) hx hb dX11_shifts_41 (by decide) (fun t5 => ?_) (fun t5 => ?_)
          · rw [if_neg t5] at h
            refine lv_iload hx hb dX11_shifts_47 (lv_at hl 5 rfl) ?_
            refine lv_iconst (v := (-1)) hx hb dX11_shifts_49 (by decide) ?_
            refine lv_iload_n hx hb dX11_shifts_50 rfl (lv_at hl 3 rfl) ?_
            refine lv_iconst (v := 1) hx hb dX11_shifts_51 (by decide) ?_
            refine lv_isub hx hb dX11_shifts_52 ?_
            refine z_cSi (As := [.int x5, .int (-1 : Int32), .int (x3 - (1 : Int32))]) (rest := []) ⟨hx, hb, hml, hown, hts⟩ hK hw hA (kX11_within l D g ad σ x5 (-1 : Int32) (x3 - (1 : Int32)) _ rfl) (zcwS 3 hts zgoodIn zw_930 zw_931 zw_64 zw_932 rfl rfl hX11_within ⟨Nat.le_of_ble_eq_true rfl, Nat.le_of_ble_eq_true rfl⟩) rfl hl.1 rfl (Nat.le_of_ble_eq_true rfl) dX11_shifts_53 ⟨Nat.zero_le _, Nat.zero_le _⟩ (fun H locs hw => ?_)
            refine lv_if_ne (tgt := 61) hx hb dX11_shifts_56 (by decide) (fun t6 => ?_) (fun t6 => ?_)
            · rw [if_neg t6] at h
              refine lv_aload_n hx hb dX11_shifts_61 rfl (lv_at hl 0 rfl) ?_
              refine lv_iload_n hx hb dX11_shifts_62 rfl (lv_at hl 3 rfl) ?_
              refine lv_iload hx hb dX11_shifts_63 (lv_at hl 4 rfl) ?_
              obtain ⟨r7, e8, h⟩ := zbind h
              refine z_cVv (As := [.int x3, .int x4]) (rest := []) ⟨hx, hb, hml, hown, hts⟩ hK hw hA (kX11_layLeast l D g ad σ x3 x4 r7 e8) (zcwV 2 hts zgoodIn zw_1135 zw_1137 zw_46 zw_64 zw_1138 rfl rfl hX11_layLeast ⟨Nat.le_of_ble_eq_true rfl, Nat.le_of_ble_eq_true rfl⟩) zO1_0 rfl hl.1 rfl (Nat.le_of_ble_eq_true rfl) dX11_shifts_65 ⟨Nat.zero_le _, Nat.zero_le _⟩ (fun H locs hw => ?_)
              refine lv_aload_n hx hb dX11_shifts_68 rfl (lv_at hl 0 rfl) ?_
              refine z_getc hx hb hts zin_X11 hown hK hw zF1_0_13 (hts _ zw_851) dX11_shifts_69 ?_
              refine lv_iload_n hx hb dX11_shifts_72 rfl (lv_at hl 1 rfl) ?_
              obtain ⟨v9, e10, h⟩ := zbind h
              refine z_iald hx hb hK hw e10 dX11_shifts_73 ?_
              refine lv_istore (lv' := [(6, .int v9), (0, .ref (ad 0)), (1, .int x1), (2, .int x2), (3, .int x3), (4, .int x4), (5, .int x5)]) hx hb dX11_shifts_74 hl (by decide) rfl (fun ls hl => ?_)
              refine lv_aload_n hx hb dX11_shifts_76 rfl (lv_at hl 1 rfl) ?_
              refine z_getc hx hb hts zin_X11 hown hK hw zF1_0_13 (hts _ zw_851) dX11_shifts_77 ?_
              refine lv_iload_n hx hb dX11_shifts_80 rfl (lv_at hl 3 rfl) ?_
              obtain ⟨v11, e12, h⟩ := zbind h
              refine z_iald hx hb hK hw e12 dX11_shifts_81 ?_
              refine lv_istore (lv' := [(7, .int v11), (6, .int v9), (0, .ref (ad 0)), (1, .int x1), (2, .int x2), (3, .int x3), (4, .int x4), (5, .int x5)]) hx hb dX11_shifts_82 hl (by decide) rfl (fun ls hl => ?_)
              refine lv_iconst (v := 2) hx hb dX11_shifts_84 (by decide) ?_
              refine lv_istore (lv' := [(8, .int (2 : Int32)), (7, .int v11), (6, .int v9), (0, .ref (ad 0)), (1, .int x1), (2, .int x2), (3, .int x3), (4, .int x4), (5, .int x5)]) hx hb dX11_shifts_85 hl (by decide) rfl (fun ls hl => ?_)
              refine lv_iload hx hb dX11_shifts_87 (lv_at hl 8 rfl) ?_
              refine lv_iconst (v := (-1)) hx hb dX11_shifts_89 (by decide) ?_
              refine lv_icmp_ne (tgt := 109) hx hb dX11_shifts_90 (by decide) (fun t13 => ?_) (fun t13 => ?_)
              · rw [if_neg t13] at h
                refine lv_iconst (v := 0) hx hb dX11_shifts_109 (by decide) ?_
                refine lv_istore (lv' := [(9, .int (0 : Int32)), (8, .int (2 : Int32)), (7, .int v11), (6, .int v9), (0, .ref (ad 0)), (1, .int x1), (2, .int x2), (3, .int x3), (4, .int x4), (5, .int x5)]) hx hb dX11_shifts_110 hl (by decide) rfl (fun ls hl => ?_)
                obtain ⟨b14, e15, h⟩ := zbind h
                refine wX11_shifts_112 C r7 x4 x5 zFU (v9, v11, (2 : Int32), (0 : Int32)) b14 e15 (fun H locs ls hw hl => ?_) _ _ _ hw (lv_sub hl [4, 8, 9, 3, 2, 1, 0] rfl)
                have hl : lv_has ls 11 [(0, .ref (ad 0)), (4, .int x4), (5, .int x5), (6, .int b14.1), (7, .int b14.2.1), (8, .int b14.2.2.1), (9, .int b14.2.2.2)] := hl
                refine lv_iload hx hb dX11_shifts_211 (lv_at hl 5 rfl) ?_
                obtain rfl := Option.some.inj h
                exact hret _ _ _ _ hw rfl dX11_shifts_213
              · rw [if_pos t13] at h
                refine lv_aload_n hx hb dX11_shifts_93 rfl (lv_at hl 3 rfl) ?_
                refine z_getc hx hb hts zin_X11 hown hK hw zF1_0_26 (hts _ zw_864) dX11_shifts_94 ?_
                refine lv_iconst (v := 0) hx hb dX11_shifts_97 (by decide) ?_
                refine lv_iload hx hb dX11_shifts_98 (lv_at hl 2 rfl) ?_
                refine lv_iload hx hb dX11_shifts_100 (lv_at hl 1 rfl) ?_
                refine lv_iload hx hb dX11_shifts_102 (lv_at hl 0 rfl) ?_
                refine z_cSi (As := [.int (0 : Int32), .int v9, .int v11, .int (2 : Int32)]) (rest := [.ref (ad 17)]) ⟨hx, hb, hml, hown, hts⟩ hK hw hA (kX11_spot l D g ad r7 (0 : Int32) v9 v11 (2 : Int32) _ rfl) (zcwS 4 hts zgoodIn zw_1139 zw_1140 zw_64 zw_1141 rfl rfl hX11_spot ⟨Nat.le_of_ble_eq_true rfl, Nat.le_of_ble_eq_true rfl⟩) rfl hl.1 rfl (Nat.le_of_ble_eq_true rfl) dX11_shifts_104 ⟨Nat.zero_le _, Nat.zero_le _⟩ (fun H locs hw => ?_)
                obtain ⟨v16, e17, h⟩ := zbind h
                refine z_iald hx hb hK hw e17 dX11_shifts_107 ?_
                obtain rfl := Option.some.inj h
                exact hret _ _ _ _ hw rfl dX11_shifts_108
            · rw [if_pos t6] at h
              refine lv_iconst (v := (-1)) hx hb dX11_shifts_59 (by decide) ?_
              obtain rfl := Option.some.inj h
              exact hret _ _ _ _ hw rfl dX11_shifts_60
          · rw [if_pos t5] at h
            refine lv_bipush (v := (-2)) hx hb dX11_shifts_44 (by decide) ?_
            obtain rfl := Option.some.inj h
            exact hret _ _ _ _ hw rfl dX11_shifts_46
      · rw [if_pos t3] at h
        refine lv_iconst (v := (-1)) hx hb dX11_shifts_21 (by decide) ?_
        obtain rfl := Option.some.inj h
        exact hret _ _ _ _ hw rfl dX11_shifts_22
set_option maxHeartbeats 4000000 in
set_option maxRecDepth 100000 in
theorem wX11_isOrder_5 {p : Program} {l : Launch} {e : Env} {s : State} {m : MethodId} {args : Array Value} {below : List Frame} {meth : Method} {c : Code} {A : Nat → Prop} {H0 : Heap} {Q : State → Prop} {D : va_G} {g : zG} {ad : Nat → Nat} (C : zCx p c cX11_isOrder s args RX11 m 5 A H0 D g) (σ : zSt) (x1 : Int32) (x2 : Int32) (n : Nat) (a : (Int32 × Int32)) (b : ((Int32 × Int32) ⊕ (Int32))) (h : zLp (fun a => bX11_isOrder_5 σ x1 x2 a.1 a.2) n a = some b) (hk1 : ∀ a, b = .inl a → ∀ (H : Heap) (locs : List Loc) (ls : Array Slot), zH D g 1 ad A H0 σ H locs → lv_has ls 5 [(0, .ref (ad 0)), (1, .int x1), (2, .int x2), (3, .int a.1), (4, .int a.2)] → W p l e (zRm 1) s m args below meth c H locs 0 0 Q (F0 m 52 ls [])) (hk2 : ∀ r, b = .inr r → ∀ (H : Heap) (locs : List Loc) (pc : Nat) (ls : Array Slot), zH D g 1 ad A H0 σ H locs → narrow .boolean (.int r) = .int r → decode cX11_isOrder pc = .ok (.ireturn, 1) → W p l e (zRm 1) s m args below meth c H locs 0 0 Q (F0 m pc ls [.int r])) : ∀ (H : Heap) (locs : List Loc) (ls : Array Slot), zH D g 1 ad A H0 σ H locs → lv_has ls 5 [(0, .ref (ad 0)), (1, .int x1), (2, .int x2), (3, .int a.1), (4, .int a.2)] → W p l e (zRm 1) s m args below meth c H locs 0 0 Q (F0 m 5 ls []) := by
  obtain ⟨hx, hb, hml, hown, hts, hK, hA⟩ := id C
  refine zLp_walk (P := fun (a : (Int32 × Int32)) => ∀ (H : Heap) (locs : List Loc) (ls : Array Slot), zH D g 1 ad A H0 σ H locs → lv_has ls 5 [(0, .ref (ad 0)), (1, .int x1), (2, .int x2), (3, .int a.1), (4, .int a.2)] → W p l e (zRm 1) s m args below meth c H locs 0 0 Q (F0 m 5 ls [])) (E := fun (b' : ((Int32 × Int32) ⊕ (Int32))) => b' = b) ?_ n a b h rfl
  intro a r h hn he H locs ls hw hl
  obtain ⟨x3, x4⟩ := a
  have h : bX11_isOrder_5 σ x1 x2 x3 x4 = some r := h
  have hl : lv_has ls 5 [(0, .ref (ad 0)), (1, .int x1), (2, .int x2), (3, .int x3), (4, .int x4)] := hl
  have hw : zH D g 1 ad A H0 σ H locs := hw
  unfold bX11_isOrder_5 at h
  refine lv_iload hx hb dX11_isOrder_5 (lv_at hl 4 rfl) ?_
  refine lv_iload_n hx hb dX11_isOrder_7 rfl (lv_at hl 2 rfl) ?_
  refine lv_icmp_ge (tgt := 52) hx hb dX11_isOrder_8 (by decide) (fun t1 => ?_) (fun t1 => ?_)
  · rw [if_pos t1] at h
    obtain rfl := Option.some.inj h
    obtain rfl := he _ rfl
    exact hk1 _ rfl _ _ _ hw (lv_sub hl [0, 1, 2, 3, 4] rfl)
  · rw [if_neg t1] at h
    refine lv_aload_n hx hb dX11_isOrder_11 rfl (lv_at hl 0 rfl) ?_
    refine z_getc hx hb hts zin_X11 hown hK hw zF1_0_4 (hts _ zw_842) dX11_isOrder_12 ?_
    refine lv_iload_n hx hb dX11_isOrder_15 rfl (lv_at hl 1 rfl) ?_
    refine lv_iload hx hb dX11_isOrder_16 (lv_at hl 4 rfl) ?_
    refine lv_iadd hx hb dX11_isOrder_18 ?_
    obtain ⟨v2, e3, h⟩ := zbind h
    refine z_iald hx hb hK hw e3 dX11_isOrder_19 ?_
    refine lv_iconst (v := 0) hx hb dX11_isOrder_20 (by decide) ?_
    refine lv_iload_n hx hb dX11_isOrder_21 rfl (lv_at hl 2 rfl) ?_
    refine lv_iconst (v := 1) hx hb dX11_isOrder_22 (by decide) ?_
    refine lv_isub hx hb dX11_isOrder_23 ?_
    refine z_cSi (As := [.int v2, .int (0 : Int32), .int (x2 - (1 : Int32))]) (rest := []) ⟨hx, hb, hml, hown, hts⟩ hK hw hA (kX11_within l D g ad σ v2 (0 : Int32) (x2 - (1 : Int32)) _ rfl) (zcwS 3 hts zgoodIn zw_930 zw_931 zw_64 zw_932 rfl rfl hX11_within ⟨Nat.le_of_ble_eq_true rfl, Nat.le_of_ble_eq_true rfl⟩) rfl hl.1 rfl (Nat.le_of_ble_eq_true rfl) dX11_isOrder_24 ⟨Nat.zero_le _, Nat.zero_le _⟩ (fun H locs hw => ?_)
    refine lv_if_ne (tgt := 32) hx hb dX11_isOrder_27 (by decide) (fun t4 => ?_) (fun t4 => ?_)
    · rw [if_neg t4] at h
      refine lv_iload_n hx hb dX11_isOrder_32 rfl (lv_at hl 3 rfl) ?_
      refine lv_iconst (v := 1) hx hb dX11_isOrder_33 (by decide) ?_
      refine lv_aload_n hx hb dX11_isOrder_34 rfl (lv_at hl 0 rfl) ?_
      refine z_getc hx hb hts zin_X11 hown hK hw zF1_0_4 (hts _ zw_842) dX11_isOrder_35 ?_
      refine lv_iload_n hx hb dX11_isOrder_38 rfl (lv_at hl 1 rfl) ?_
      refine lv_iload hx hb dX11_isOrder_39 (lv_at hl 4 rfl) ?_
      refine lv_iadd hx hb dX11_isOrder_41 ?_
      obtain ⟨v5, e6, h⟩ := zbind h
      refine z_iald hx hb hK hw e6 dX11_isOrder_42 ?_
      refine lv_ishl hx hb dX11_isOrder_43 ?_
      refine lv_ior hx hb dX11_isOrder_44 ?_
      refine lv_istore_n (lv' := [(3, .int (x3 ||| ((1 : Int32) <<< (v5 &&& 31)))), (0, .ref (ad 0)), (1, .int x1), (2, .int x2), (4, .int x4)]) hx hb dX11_isOrder_45 rfl hl (by decide) rfl (fun ls hl => ?_)
      refine lv_iinc (v := x4 + 1) (lv' := [(4, .int (x4 + 1)), (3, .int (x3 ||| ((1 : Int32) <<< (v5 &&& 31)))), (0, .ref (ad 0)), (1, .int x1), (2, .int x2)]) hx hb dX11_isOrder_46 hl (k := 4) rfl rfl (by decide) rfl (fun ls hl => ?_)
      refine lv_goto (tgt := 5) hx hb dX11_isOrder_49 (by decide) ?_
      obtain rfl := Option.some.inj h
      exact hn _ rfl _ _ _ hw (lv_sub hl [2, 3, 4, 1, 0] rfl)
    · rw [if_pos t4] at h
      refine lv_iconst (v := 0) hx hb dX11_isOrder_30 (by decide) ?_
      obtain rfl := Option.some.inj h
      obtain rfl := he _ rfl
      exact hk2 _ rfl _ _ _ _ hw zb0 dX11_isOrder_31
theorem hX11_isOrder : yX11_isOrder.cls = RX11 ∧ yX11_isOrder.cls ≠ "java/lang/invoke/MethodHandle" ∧ yX11_isOrder.cls ≠ "java/lang/invoke/VarHandle" ∧ (parseMethodDescriptor yX11_isOrder.desc).map (fun d => d.parameters.length) = some 2 := by decide +kernel
set_option maxHeartbeats 4000000 in
set_option maxRecDepth 100000 in
theorem kX11_isOrder (l : Launch) (D : va_G) (g : zG) (ad : Nat → Nat) (σ : zSt) (x1 : Int32) (x2 : Int32) (o : Int32) (h : fX11_isOrder σ x1 x2 = some o) : zMi l D g 1 ad yX11_isOrder (Cond.code yX11_isOrder cX11_isOrder 5 (some .boolean) :: zws) (zRm 1) [.ref (ad 0), .int x1, .int x2] σ o σ := by
  refine z_enter_i (by decide) (Nat.le_of_ble_eq_true rfl) ?_
  intro p e s m below meth c A ls Q C hw hl hret
  obtain ⟨hx, hb, hml, hown, hts, hK, hA⟩ := id C
  have hown : s.vm.findClass RX11 = some m.cls := hown
  have C : zCx p c cX11_isOrder s _ RX11 m 5 A s.heap D g := C
  have hl : lv_has ls 5 [(0, .ref (ad 0)), (1, .int x1), (2, .int x2)] := hl
  unfold fX11_isOrder at h
  refine lv_iconst (v := 0) hx hb dX11_isOrder_0 (by decide) ?_
  refine lv_istore_n (lv' := [(3, .int (0 : Int32)), (0, .ref (ad 0)), (1, .int x1), (2, .int x2)]) hx hb dX11_isOrder_1 rfl hl (by decide) rfl (fun ls hl => ?_)
  refine lv_iconst (v := 0) hx hb dX11_isOrder_2 (by decide) ?_
  refine lv_istore (lv' := [(4, .int (0 : Int32)), (3, .int (0 : Int32)), (0, .ref (ad 0)), (1, .int x1), (2, .int x2)]) hx hb dX11_isOrder_3 hl (by decide) rfl (fun ls hl => ?_)
  obtain ⟨b1, e2, h⟩ := zbind h
  refine wX11_isOrder_5 C σ x1 x2 zFU ((0 : Int32), (0 : Int32)) b1 e2 (fun a3 hb H locs ls hw hl => ?_) (fun r4 hb H locs pc ls hw hnn hd => ?_) _ _ _ hw (lv_sub hl [2, 3, 4, 1, 0] rfl)
  · subst hb
    rw [zel_l] at h
    have hl : lv_has ls 5 [(0, .ref (ad 0)), (1, .int x1), (2, .int x2), (3, .int a3.1), (4, .int a3.2)] := hl
    refine lv_iload_n hx hb dX11_isOrder_52 rfl (lv_at hl 3 rfl) ?_
    refine lv_iconst (v := 1) hx hb dX11_isOrder_53 (by decide) ?_
    refine lv_iload_n hx hb dX11_isOrder_54 rfl (lv_at hl 2 rfl) ?_
    refine lv_ishl hx hb dX11_isOrder_55 ?_
    refine lv_iconst (v := 1) hx hb dX11_isOrder_56 (by decide) ?_
    refine lv_isub hx hb dX11_isOrder_57 ?_
    refine lv_icmp_ne (tgt := 65) hx hb dX11_isOrder_58 (by decide) (fun t5 => ?_) (fun t5 => ?_)
    · rw [if_neg t5] at h
      refine lv_iconst (v := 0) hx hb dX11_isOrder_65 (by decide) ?_
      obtain rfl := Option.some.inj h
      exact hret _ _ _ _ hw zb0 dX11_isOrder_66
    · rw [if_pos t5] at h
      refine lv_iconst (v := 1) hx hb dX11_isOrder_61 (by decide) ?_
      refine lv_goto (tgt := 66) hx hb dX11_isOrder_62 (by decide) ?_
      obtain rfl := Option.some.inj h
      exact hret _ _ _ _ hw zb1 dX11_isOrder_66
  · subst hb
    rw [zel_r] at h
    obtain rfl := Option.some.inj h
    exact hret _ _ _ _ hw hnn hd
set_option maxHeartbeats 4000000 in
set_option maxRecDepth 100000 in
theorem wX11_held_30 {p : Program} {l : Launch} {e : Env} {s : State} {m : MethodId} {args : Array Value} {below : List Frame} {meth : Method} {c : Code} {A : Nat → Prop} {H0 : Heap} {Q : State → Prop} {D : va_G} {g : zG} {ad : Nat → Nat} (C : zCx p c cX11_held s args RX11 m 7 A H0 D g) (σ : zSt) (x1 : Int32) (x2 : Int32) (x3 : Int32) (x4 : Int32) (n : Nat) (a : (Int32 × Int32)) (b : (Int32 × Int32)) (h : zLp (fun a => bX11_held_30 σ x1 x2 x3 x4 a.1 a.2) n a = some b) (hk : ∀ (H : Heap) (locs : List Loc) (ls : Array Slot), zH D g 1 ad A H0 σ H locs → lv_has ls 7 [(0, .ref (ad 0)), (1, .int x1), (2, .int x2), (3, .int x3), (4, .int x4), (5, .int b.1), (6, .int b.2)] → W p l e (zRm 0) s m args below meth c H locs 0 0 Q (F0 m 64 ls [])) : ∀ (H : Heap) (locs : List Loc) (ls : Array Slot), zH D g 1 ad A H0 σ H locs → lv_has ls 7 [(0, .ref (ad 0)), (1, .int x1), (2, .int x2), (3, .int x3), (4, .int x4), (5, .int a.1), (6, .int a.2)] → W p l e (zRm 0) s m args below meth c H locs 0 0 Q (F0 m 30 ls []) := by
  obtain ⟨hx, hb, hml, hown, hts, hK, hA⟩ := id C
  refine zLp_walk (P := fun (a : (Int32 × Int32)) => ∀ (H : Heap) (locs : List Loc) (ls : Array Slot), zH D g 1 ad A H0 σ H locs → lv_has ls 7 [(0, .ref (ad 0)), (1, .int x1), (2, .int x2), (3, .int x3), (4, .int x4), (5, .int a.1), (6, .int a.2)] → W p l e (zRm 0) s m args below meth c H locs 0 0 Q (F0 m 30 ls [])) (E := fun (b' : (Int32 × Int32)) => b' = b) ?_ n a b h rfl
  intro a r h hn he H locs ls hw hl
  obtain ⟨x5, x6⟩ := a
  have h : bX11_held_30 σ x1 x2 x3 x4 x5 x6 = some r := h
  have hl : lv_has ls 7 [(0, .ref (ad 0)), (1, .int x1), (2, .int x2), (3, .int x3), (4, .int x4), (5, .int x5), (6, .int x6)] := hl
  have hw : zH D g 1 ad A H0 σ H locs := hw
  unfold bX11_held_30 at h
  refine lv_iload hx hb dX11_held_30 (lv_at hl 6 rfl) ?_
  refine lv_iload_n hx hb dX11_held_32 rfl (lv_at hl 1 rfl) ?_
  refine lv_icmp_ge (tgt := 64) hx hb dX11_held_33 (by decide) (fun t1 => ?_) (fun t1 => ?_)
  · rw [if_pos t1] at h
    obtain rfl := Option.some.inj h
    obtain rfl := he _ rfl
    exact hk _ _ _ hw (lv_sub hl [0, 1, 2, 3, 4, 5, 6] rfl)
  · rw [if_neg t1] at h
    refine lv_iload hx hb dX11_held_36 (lv_at hl 5 rfl) ?_
    refine lv_aload_n hx hb dX11_held_38 rfl (lv_at hl 0 rfl) ?_
    refine z_getc hx hb hts zin_X11 hown hK hw zF1_0_27 (hts _ zw_865) dX11_held_39 ?_
    refine lv_iload hx hb dX11_held_42 (lv_at hl 6 rfl) ?_
    obtain ⟨v2, e3, h⟩ := zbind h
    refine z_iald hx hb hK hw e3 dX11_held_44 ?_
    refine lv_iload hx hb dX11_held_45 (lv_at hl 4 rfl) ?_
    refine lv_icmp_gt (tgt := 54) hx hb dX11_held_47 (by decide) (fun t4 => ?_) (fun t4 => ?_)
    · rw [if_pos t4] at h
      refine lv_iconst (v := 0) hx hb dX11_held_54 (by decide) ?_
      refine lv_isub hx hb dX11_held_55 ?_
      refine lv_istore (lv' := [(5, .int (x5 - (0 : Int32))), (0, .ref (ad 0)), (1, .int x1), (2, .int x2), (3, .int x3), (4, .int x4), (6, .int x6)]) hx hb dX11_held_56 hl (by decide) rfl (fun ls hl => ?_)
      refine lv_iinc (v := x6 + 1) (lv' := [(6, .int (x6 + 1)), (5, .int (x5 - (0 : Int32))), (0, .ref (ad 0)), (1, .int x1), (2, .int x2), (3, .int x3), (4, .int x4)]) hx hb dX11_held_58 hl (k := 6) rfl rfl (by decide) rfl (fun ls hl => ?_)
      refine lv_goto (tgt := 30) hx hb dX11_held_61 (by decide) ?_
      obtain rfl := Option.some.inj h
      exact hn _ rfl _ _ _ hw (lv_sub hl [2, 3, 4, 5, 6, 1, 0] rfl)
    · rw [if_neg t4] at h
      refine lv_iconst (v := 1) hx hb dX11_held_50 (by decide) ?_
      refine lv_goto (tgt := 55) hx hb dX11_held_51 (by decide) ?_
      refine lv_isub hx hb dX11_held_55 ?_
      refine lv_istore (lv' := [(5, .int (x5 - (1 : Int32))), (0, .ref (ad 0)), (1, .int x1), (2, .int x2), (3, .int x3), (4, .int x4), (6, .int x6)]) hx hb dX11_held_56 hl (by decide) rfl (fun ls hl => ?_)
      refine lv_iinc (v := x6 + 1) (lv' := [(6, .int (x6 + 1)), (5, .int (x5 - (1 : Int32))), (0, .ref (ad 0)), (1, .int x1), (2, .int x2), (3, .int x3), (4, .int x4)]) hx hb dX11_held_58 hl (k := 6) rfl rfl (by decide) rfl (fun ls hl => ?_)
      refine lv_goto (tgt := 30) hx hb dX11_held_61 (by decide) ?_
      obtain rfl := Option.some.inj h
      exact hn _ rfl _ _ _ hw (lv_sub hl [2, 3, 4, 5, 6, 1, 0] rfl)
set_option maxHeartbeats 4000000 in
set_option maxRecDepth 100000 in
theorem wX11_held_5 {p : Program} {l : Launch} {e : Env} {s : State} {m : MethodId} {args : Array Value} {below : List Frame} {meth : Method} {c : Code} {A : Nat → Prop} {H0 : Heap} {Q : State → Prop} {D : va_G} {g : zG} {ad : Nat → Nat} (C : zCx p c cX11_held s args RX11 m 7 A H0 D g) (σ : zSt) (x1 : Int32) (x2 : Int32) (n : Nat) (a : (Int32 × Int32)) (b : (Int32 × Int32)) (h : zLp (fun a => bX11_held_5 σ x1 x2 a.1 a.2) n a = some b) (hk : ∀ (H : Heap) (locs : List Loc) (ls : Array Slot), zH D g 1 ad A H0 σ H locs → lv_has ls 7 [(0, .ref (ad 0)), (1, .int x1), (2, .int x2), (3, .int b.1), (4, .int b.2)] → W p l e (zRm 0) s m args below meth c H locs 0 0 Q (F0 m 83 ls [])) : ∀ (H : Heap) (locs : List Loc) (ls : Array Slot), zH D g 1 ad A H0 σ H locs → lv_has ls 7 [(0, .ref (ad 0)), (1, .int x1), (2, .int x2), (3, .int a.1), (4, .int a.2)] → W p l e (zRm 0) s m args below meth c H locs 0 0 Q (F0 m 5 ls []) := by
  obtain ⟨hx, hb, hml, hown, hts, hK, hA⟩ := id C
  refine zLp_walk (P := fun (a : (Int32 × Int32)) => ∀ (H : Heap) (locs : List Loc) (ls : Array Slot), zH D g 1 ad A H0 σ H locs → lv_has ls 7 [(0, .ref (ad 0)), (1, .int x1), (2, .int x2), (3, .int a.1), (4, .int a.2)] → W p l e (zRm 0) s m args below meth c H locs 0 0 Q (F0 m 5 ls [])) (E := fun (b' : (Int32 × Int32)) => b' = b) ?_ n a b h rfl
  intro a r h hn he H locs ls hw hl
  obtain ⟨x3, x4⟩ := a
  have h : bX11_held_5 σ x1 x2 x3 x4 = some r := h
  have hl : lv_has ls 7 [(0, .ref (ad 0)), (1, .int x1), (2, .int x2), (3, .int x3), (4, .int x4)] := hl
  have hw : zH D g 1 ad A H0 σ H locs := hw
  unfold bX11_held_5 at h
  refine lv_iload hx hb dX11_held_5 (lv_at hl 4 rfl) ?_
  refine lv_iload_n hx hb dX11_held_7 rfl (lv_at hl 2 rfl) ?_
  refine lv_icmp_gt (tgt := 83) hx hb dX11_held_8 (by decide) (fun t1 => ?_) (fun t1 => ?_)
  · rw [if_pos t1] at h
    obtain rfl := Option.some.inj h
    obtain rfl := he _ rfl
    exact hk _ _ _ hw (lv_sub hl [0, 1, 2, 3, 4] rfl)
  · rw [if_neg t1] at h
    refine lv_iload hx hb dX11_held_11 (lv_at hl 4 rfl) ?_
    refine lv_iload_n hx hb dX11_held_13 rfl (lv_at hl 1 rfl) ?_
    refine lv_icmp_ge (tgt := 24) hx hb dX11_held_14 (by decide) (fun t2 => ?_) (fun t2 => ?_)
    · rw [if_pos t2] at h
      refine lv_iload_n hx hb dX11_held_24 rfl (lv_at hl 1 rfl) ?_
      refine lv_istore (lv' := [(5, .int x1), (0, .ref (ad 0)), (1, .int x1), (2, .int x2), (3, .int x3), (4, .int x4)]) hx hb dX11_held_25 hl (by decide) rfl (fun ls hl => ?_)
      refine lv_iconst (v := 0) hx hb dX11_held_27 (by decide) ?_
      refine lv_istore (lv' := [(6, .int (0 : Int32)), (5, .int x1), (0, .ref (ad 0)), (1, .int x1), (2, .int x2), (3, .int x3), (4, .int x4)]) hx hb dX11_held_28 hl (by decide) rfl (fun ls hl => ?_)
      obtain ⟨b3, e4, h⟩ := zbind h
      refine wX11_held_30 C σ x1 x2 x3 x4 zFU (x1, (0 : Int32)) b3 e4 (fun H locs ls hw hl => ?_) _ _ _ hw (lv_sub hl [2, 3, 4, 5, 6, 1, 0] rfl)
      have hl : lv_has ls 7 [(0, .ref (ad 0)), (1, .int x1), (2, .int x2), (3, .int x3), (4, .int x4), (5, .int b3.1), (6, .int b3.2)] := hl
      refine lv_iload hx hb dX11_held_64 (lv_at hl 5 rfl) ?_
      refine lv_iload_n hx hb dX11_held_66 rfl (lv_at hl 3 rfl) ?_
      refine lv_icmp_le (tgt := 75) hx hb dX11_held_67 (by decide) (fun t5 => ?_) (fun t5 => ?_)
      · rw [if_pos t5] at h
        refine lv_iload_n hx hb dX11_held_75 rfl (lv_at hl 3 rfl) ?_
        refine lv_istore_n (lv' := [(3, .int x3), (0, .ref (ad 0)), (1, .int x1), (2, .int x2), (4, .int x4), (5, .int b3.1), (6, .int b3.2)]) hx hb dX11_held_76 rfl hl (by decide) rfl (fun ls hl => ?_)
        refine lv_iinc (v := x4 + 1) (lv' := [(4, .int (x4 + 1)), (3, .int x3), (0, .ref (ad 0)), (1, .int x1), (2, .int x2), (5, .int b3.1), (6, .int b3.2)]) hx hb dX11_held_77 hl (k := 4) rfl rfl (by decide) rfl (fun ls hl => ?_)
        refine lv_goto (tgt := 5) hx hb dX11_held_80 (by decide) ?_
        obtain rfl := Option.some.inj h
        exact hn _ rfl _ _ _ hw (lv_sub hl [2, 3, 4, 1, 0] rfl)
      · rw [if_neg t5] at h
        refine lv_iload hx hb dX11_held_70 (lv_at hl 5 rfl) ?_
        refine lv_goto (tgt := 76) hx hb dX11_held_72 (by decide) ?_
        refine lv_istore_n (lv' := [(3, .int b3.1), (0, .ref (ad 0)), (1, .int x1), (2, .int x2), (4, .int x4), (5, .int b3.1), (6, .int b3.2)]) hx hb dX11_held_76 rfl hl (by decide) rfl (fun ls hl => ?_)
        refine lv_iinc (v := x4 + 1) (lv' := [(4, .int (x4 + 1)), (3, .int b3.1), (0, .ref (ad 0)), (1, .int x1), (2, .int x2), (5, .int b3.1), (6, .int b3.2)]) hx hb dX11_held_77 hl (k := 4) rfl rfl (by decide) rfl (fun ls hl => ?_)
        refine lv_goto (tgt := 5) hx hb dX11_held_80 (by decide) ?_
        obtain rfl := Option.some.inj h
        exact hn _ rfl _ _ _ hw (lv_sub hl [2, 3, 4, 1, 0] rfl)
    · rw [if_neg t2] at h
      refine lv_iload hx hb dX11_held_17 (lv_at hl 4 rfl) ?_
      refine lv_iconst (v := 1) hx hb dX11_held_19 (by decide) ?_
      refine lv_iadd hx hb dX11_held_20 ?_
      refine lv_goto (tgt := 25) hx hb dX11_held_21 (by decide) ?_
      refine lv_istore (lv' := [(5, .int (x4 + (1 : Int32))), (0, .ref (ad 0)), (1, .int x1), (2, .int x2), (3, .int x3), (4, .int x4)]) hx hb dX11_held_25 hl (by decide) rfl (fun ls hl => ?_)
      refine lv_iconst (v := 0) hx hb dX11_held_27 (by decide) ?_
      refine lv_istore (lv' := [(6, .int (0 : Int32)), (5, .int (x4 + (1 : Int32))), (0, .ref (ad 0)), (1, .int x1), (2, .int x2), (3, .int x3), (4, .int x4)]) hx hb dX11_held_28 hl (by decide) rfl (fun ls hl => ?_)
      obtain ⟨b6, e7, h⟩ := zbind h
      refine wX11_held_30 C σ x1 x2 x3 x4 zFU (x4 + (1 : Int32), (0 : Int32)) b6 e7 (fun H locs ls hw hl => ?_) _ _ _ hw (lv_sub hl [2, 3, 4, 5, 6, 1, 0] rfl)
      have hl : lv_has ls 7 [(0, .ref (ad 0)), (1, .int x1), (2, .int x2), (3, .int x3), (4, .int x4), (5, .int b6.1), (6, .int b6.2)] := hl
      refine lv_iload hx hb dX11_held_64 (lv_at hl 5 rfl) ?_
      refine lv_iload_n hx hb dX11_held_66 rfl (lv_at hl 3 rfl) ?_
      refine lv_icmp_le (tgt := 75) hx hb dX11_held_67 (by decide) (fun t8 => ?_) (fun t8 => ?_)
      · rw [if_pos t8] at h
        refine lv_iload_n hx hb dX11_held_75 rfl (lv_at hl 3 rfl) ?_
        refine lv_istore_n (lv' := [(3, .int x3), (0, .ref (ad 0)), (1, .int x1), (2, .int x2), (4, .int x4), (5, .int b6.1), (6, .int b6.2)]) hx hb dX11_held_76 rfl hl (by decide) rfl (fun ls hl => ?_)
        refine lv_iinc (v := x4 + 1) (lv' := [(4, .int (x4 + 1)), (3, .int x3), (0, .ref (ad 0)), (1, .int x1), (2, .int x2), (5, .int b6.1), (6, .int b6.2)]) hx hb dX11_held_77 hl (k := 4) rfl rfl (by decide) rfl (fun ls hl => ?_)
        refine lv_goto (tgt := 5) hx hb dX11_held_80 (by decide) ?_
        obtain rfl := Option.some.inj h
        exact hn _ rfl _ _ _ hw (lv_sub hl [2, 3, 4, 1, 0] rfl)
      · rw [if_neg t8] at h
        refine lv_iload hx hb dX11_held_70 (lv_at hl 5 rfl) ?_
        refine lv_goto (tgt := 76) hx hb dX11_held_72 (by decide) ?_
        refine lv_istore_n (lv' := [(3, .int b6.1), (0, .ref (ad 0)), (1, .int x1), (2, .int x2), (4, .int x4), (5, .int b6.1), (6, .int b6.2)]) hx hb dX11_held_76 rfl hl (by decide) rfl (fun ls hl => ?_)
        refine lv_iinc (v := x4 + 1) (lv' := [(4, .int (x4 + 1)), (3, .int b6.1), (0, .ref (ad 0)), (1, .int x1), (2, .int x2), (5, .int b6.1), (6, .int b6.2)]) hx hb dX11_held_77 hl (k := 4) rfl rfl (by decide) rfl (fun ls hl => ?_)
        refine lv_goto (tgt := 5) hx hb dX11_held_80 (by decide) ?_
        obtain rfl := Option.some.inj h
        exact hn _ rfl _ _ _ hw (lv_sub hl [2, 3, 4, 1, 0] rfl)
theorem hX11_held : yX11_held.cls = RX11 ∧ yX11_held.cls ≠ "java/lang/invoke/MethodHandle" ∧ yX11_held.cls ≠ "java/lang/invoke/VarHandle" ∧ (parseMethodDescriptor yX11_held.desc).map (fun d => d.parameters.length) = some 2 := by decide +kernel
set_option maxHeartbeats 4000000 in
set_option maxRecDepth 100000 in
theorem kX11_held (l : Launch) (D : va_G) (g : zG) (ad : Nat → Nat) (σ : zSt) (x1 : Int32) (x2 : Int32) (o : Int32) (h : fX11_held σ x1 x2 = some o) : zMi l D g 1 ad yX11_held (Cond.code yX11_held cX11_held 7 (some .int) :: zws) (zRm 0) [.ref (ad 0), .int x1, .int x2] σ o σ := by
  refine z_enter_i (by decide) (Nat.le_of_ble_eq_true rfl) ?_
  intro p e s m below meth c A ls Q C hw hl hret
  obtain ⟨hx, hb, hml, hown, hts, hK, hA⟩ := id C
  have hown : s.vm.findClass RX11 = some m.cls := hown
  have C : zCx p c cX11_held s _ RX11 m 7 A s.heap D g := C
  have hl : lv_has ls 7 [(0, .ref (ad 0)), (1, .int x1), (2, .int x2)] := hl
  unfold fX11_held at h
  refine lv_iconst (v := 0) hx hb dX11_held_0 (by decide) ?_
  refine lv_istore_n (lv' := [(3, .int (0 : Int32)), (0, .ref (ad 0)), (1, .int x1), (2, .int x2)]) hx hb dX11_held_1 rfl hl (by decide) rfl (fun ls hl => ?_)
  refine lv_iconst (v := 0) hx hb dX11_held_2 (by decide) ?_
  refine lv_istore (lv' := [(4, .int (0 : Int32)), (3, .int (0 : Int32)), (0, .ref (ad 0)), (1, .int x1), (2, .int x2)]) hx hb dX11_held_3 hl (by decide) rfl (fun ls hl => ?_)
  obtain ⟨b1, e2, h⟩ := zbind h
  refine wX11_held_5 C σ x1 x2 zFU ((0 : Int32), (0 : Int32)) b1 e2 (fun H locs ls hw hl => ?_) _ _ _ hw (lv_sub hl [2, 3, 4, 1, 0] rfl)
  have hl : lv_has ls 7 [(0, .ref (ad 0)), (1, .int x1), (2, .int x2), (3, .int b1.1), (4, .int b1.2)] := hl
  refine lv_iload_n hx hb dX11_held_83 rfl (lv_at hl 3 rfl) ?_
  obtain rfl := Option.some.inj h
  exact hret _ _ _ _ hw rfl dX11_held_84
set_option maxHeartbeats 4000000 in
set_option maxRecDepth 100000 in
theorem wX11_booth_99 {p : Program} {l : Launch} {e : Env} {s : State} {m : MethodId} {args : Array Value} {below : List Frame} {meth : Method} {c : Code} {A : Nat → Prop} {H0 : Heap} {Q : State → Prop} {D : va_G} {g : zG} {ad : Nat → Nat} (C : zCx p c cX11_booth s args RX11 m 12 A H0 D g) (x4 : Int32) (x5 : Int32) (x7 : Int32) (n : Nat) (a : (Int32 × Int32 × Int32 × zSt)) (b : (Int32 × Int32 × Int32 × zSt)) (h : zLp (fun a => bX11_booth_99 x4 x5 x7 a.1 a.2.1 a.2.2.1 a.2.2.2) n a = some b) (hk : ∀ (H : Heap) (locs : List Loc) (ls : Array Slot), zH D g 1 ad A H0 b.2.2.2 H locs → lv_has ls 12 [(0, .ref (ad 0)), (4, .int x4), (5, .int x5), (7, .int x7), (8, .int b.1), (9, .int b.2.1), (10, .int b.2.2.1)] → W p l e (zRm 2) s m args below meth c H locs 0 0 Q (F0 m 173 ls [])) : ∀ (H : Heap) (locs : List Loc) (ls : Array Slot), zH D g 1 ad A H0 a.2.2.2 H locs → lv_has ls 12 [(0, .ref (ad 0)), (4, .int x4), (5, .int x5), (7, .int x7), (8, .int a.1), (9, .int a.2.1), (10, .int a.2.2.1)] → W p l e (zRm 2) s m args below meth c H locs 0 0 Q (F0 m 99 ls []) := by
  obtain ⟨hx, hb, hml, hown, hts, hK, hA⟩ := id C
  refine zLp_walk (P := fun (a : (Int32 × Int32 × Int32 × zSt)) => ∀ (H : Heap) (locs : List Loc) (ls : Array Slot), zH D g 1 ad A H0 a.2.2.2 H locs → lv_has ls 12 [(0, .ref (ad 0)), (4, .int x4), (5, .int x5), (7, .int x7), (8, .int a.1), (9, .int a.2.1), (10, .int a.2.2.1)] → W p l e (zRm 2) s m args below meth c H locs 0 0 Q (F0 m 99 ls [])) (E := fun (b' : (Int32 × Int32 × Int32 × zSt)) => b' = b) ?_ n a b h rfl
  intro a r h hn he H locs ls hw hl
  obtain ⟨x8, x9, x10, σ⟩ := a
  have h : bX11_booth_99 x4 x5 x7 x8 x9 x10 σ = some r := h
  have hl : lv_has ls 12 [(0, .ref (ad 0)), (4, .int x4), (5, .int x5), (7, .int x7), (8, .int x8), (9, .int x9), (10, .int x10)] := hl
  have hw : zH D g 1 ad A H0 σ H locs := hw
  unfold bX11_booth_99 at h
  refine lv_iload hx hb dX11_booth_99 (lv_at hl 6 rfl) ?_
  refine lv_iload hx hb dX11_booth_101 (lv_at hl 1 rfl) ?_
  refine lv_icmp_ge (tgt := 173) hx hb dX11_booth_103 (by decide) (fun t1 => ?_) (fun t1 => ?_)
  · rw [if_pos t1] at h
    obtain rfl := Option.some.inj h
    obtain rfl := he _ rfl
    exact hk _ _ _ hw (lv_sub hl [0, 1, 2, 3, 4, 5, 6] rfl)
  · rw [if_neg t1] at h
    refine lv_aload_n hx hb dX11_booth_106 rfl (lv_at hl 0 rfl) ?_
    refine z_getc hx hb hts zin_X11 hown hK hw zF1_0_4 (hts _ zw_842) dX11_booth_107 ?_
    refine lv_iload hx hb dX11_booth_110 (lv_at hl 3 rfl) ?_
    refine lv_iload hx hb dX11_booth_112 (lv_at hl 6 rfl) ?_
    refine lv_iadd hx hb dX11_booth_114 ?_
    obtain ⟨v2, e3, h⟩ := zbind h
    refine z_iald hx hb hK hw e3 dX11_booth_115 ?_
    refine lv_istore (lv' := [(11, .int v2), (0, .ref (ad 0)), (4, .int x4), (5, .int x5), (7, .int x7), (8, .int x8), (9, .int x9), (10, .int x10)]) hx hb dX11_booth_116 hl (by decide) rfl (fun ls hl => ?_)
    refine lv_iload hx hb dX11_booth_118 (lv_at hl 0 rfl) ?_
    refine lv_iload hx hb dX11_booth_120 (lv_at hl 5 rfl) ?_
    refine lv_icmp_le (tgt := 130) hx hb dX11_booth_122 (by decide) (fun t4 => ?_) (fun t4 => ?_)
    · rw [if_pos t4] at h
      refine lv_iload hx hb dX11_booth_130 (lv_at hl 5 rfl) ?_
      refine lv_iconst (v := 1) hx hb dX11_booth_132 (by decide) ?_
      refine lv_iadd hx hb dX11_booth_133 ?_
      refine lv_istore (lv' := [(8, .int (x8 + (1 : Int32))), (11, .int v2), (0, .ref (ad 0)), (4, .int x4), (5, .int x5), (7, .int x7), (9, .int x9), (10, .int x10)]) hx hb dX11_booth_134 hl (by decide) rfl (fun ls hl => ?_)
      refine lv_aload_n hx hb dX11_booth_136 rfl (lv_at hl 2 rfl) ?_
      refine z_getc hx hb hts zin_X11 hown hK hw zF1_0_27 (hts _ zw_865) dX11_booth_137 ?_
      refine lv_iload hx hb dX11_booth_140 (lv_at hl 7 rfl) ?_
      refine lv_iload hx hb dX11_booth_142 (lv_at hl 0 rfl) ?_
      obtain ⟨s5, e6, h⟩ := zbind h
      refine z_iast hx hb hK hw e6 dX11_booth_144 (fun H locs hw => ?_)
      refine lv_iload hx hb dX11_booth_145 (lv_at hl 0 rfl) ?_
      refine lv_iload hx hb dX11_booth_147 (lv_at hl 1 rfl) ?_
      refine lv_isub hx hb dX11_booth_149 ?_
      refine lv_iload hx hb dX11_booth_150 (lv_at hl 6 rfl) ?_
      refine lv_icmp_le (tgt := 163) hx hb dX11_booth_152 (by decide) (fun t7 => ?_) (fun t7 => ?_)
      · rw [if_pos t7] at h
        refine lv_iload hx hb dX11_booth_163 (lv_at hl 6 rfl) ?_
        refine lv_istore (lv' := [(9, .int x9), (8, .int (x8 + (1 : Int32))), (11, .int v2), (0, .ref (ad 0)), (4, .int x4), (5, .int x5), (7, .int x7), (10, .int x10)]) hx hb dX11_booth_165 hl (by decide) rfl (fun ls hl => ?_)
        refine lv_iinc (v := x10 + 1) (lv' := [(10, .int (x10 + 1)), (9, .int x9), (8, .int (x8 + (1 : Int32))), (11, .int v2), (0, .ref (ad 0)), (4, .int x4), (5, .int x5), (7, .int x7)]) hx hb dX11_booth_167 hl (k := 7) rfl rfl (by decide) rfl (fun ls hl => ?_)
        refine lv_goto (tgt := 99) hx hb dX11_booth_170 (by decide) ?_
        obtain rfl := Option.some.inj h
        exact hn _ rfl _ _ _ hw (lv_sub hl [4, 5, 6, 7, 2, 1, 0] rfl)
      · rw [if_neg t7] at h
        refine lv_iload hx hb dX11_booth_155 (lv_at hl 0 rfl) ?_
        refine lv_iload hx hb dX11_booth_157 (lv_at hl 1 rfl) ?_
        refine lv_isub hx hb dX11_booth_159 ?_
        refine lv_goto (tgt := 165) hx hb dX11_booth_160 (by decide) ?_
        refine lv_istore (lv' := [(9, .int ((x8 + (1 : Int32)) - v2)), (8, .int (x8 + (1 : Int32))), (11, .int v2), (0, .ref (ad 0)), (4, .int x4), (5, .int x5), (7, .int x7), (10, .int x10)]) hx hb dX11_booth_165 hl (by decide) rfl (fun ls hl => ?_)
        refine lv_iinc (v := x10 + 1) (lv' := [(10, .int (x10 + 1)), (9, .int ((x8 + (1 : Int32)) - v2)), (8, .int (x8 + (1 : Int32))), (11, .int v2), (0, .ref (ad 0)), (4, .int x4), (5, .int x5), (7, .int x7)]) hx hb dX11_booth_167 hl (k := 7) rfl rfl (by decide) rfl (fun ls hl => ?_)
        refine lv_goto (tgt := 99) hx hb dX11_booth_170 (by decide) ?_
        obtain rfl := Option.some.inj h
        exact hn _ rfl _ _ _ hw (lv_sub hl [4, 5, 6, 7, 2, 1, 0] rfl)
    · rw [if_neg t4] at h
      refine lv_iload hx hb dX11_booth_125 (lv_at hl 0 rfl) ?_
      refine lv_goto (tgt := 134) hx hb dX11_booth_127 (by decide) ?_
      refine lv_istore (lv' := [(8, .int v2), (11, .int v2), (0, .ref (ad 0)), (4, .int x4), (5, .int x5), (7, .int x7), (9, .int x9), (10, .int x10)]) hx hb dX11_booth_134 hl (by decide) rfl (fun ls hl => ?_)
      refine lv_aload_n hx hb dX11_booth_136 rfl (lv_at hl 2 rfl) ?_
      refine z_getc hx hb hts zin_X11 hown hK hw zF1_0_27 (hts _ zw_865) dX11_booth_137 ?_
      refine lv_iload hx hb dX11_booth_140 (lv_at hl 7 rfl) ?_
      refine lv_iload hx hb dX11_booth_142 (lv_at hl 0 rfl) ?_
      obtain ⟨s8, e9, h⟩ := zbind h
      refine z_iast hx hb hK hw e9 dX11_booth_144 (fun H locs hw => ?_)
      refine lv_iload hx hb dX11_booth_145 (lv_at hl 0 rfl) ?_
      refine lv_iload hx hb dX11_booth_147 (lv_at hl 1 rfl) ?_
      refine lv_isub hx hb dX11_booth_149 ?_
      refine lv_iload hx hb dX11_booth_150 (lv_at hl 6 rfl) ?_
      refine lv_icmp_le (tgt := 163) hx hb dX11_booth_152 (by decide) (fun t10 => ?_) (fun t10 => ?_)
      · rw [if_pos t10] at h
        refine lv_iload hx hb dX11_booth_163 (lv_at hl 6 rfl) ?_
        refine lv_istore (lv' := [(9, .int x9), (8, .int v2), (11, .int v2), (0, .ref (ad 0)), (4, .int x4), (5, .int x5), (7, .int x7), (10, .int x10)]) hx hb dX11_booth_165 hl (by decide) rfl (fun ls hl => ?_)
        refine lv_iinc (v := x10 + 1) (lv' := [(10, .int (x10 + 1)), (9, .int x9), (8, .int v2), (11, .int v2), (0, .ref (ad 0)), (4, .int x4), (5, .int x5), (7, .int x7)]) hx hb dX11_booth_167 hl (k := 7) rfl rfl (by decide) rfl (fun ls hl => ?_)
        refine lv_goto (tgt := 99) hx hb dX11_booth_170 (by decide) ?_
        obtain rfl := Option.some.inj h
        exact hn _ rfl _ _ _ hw (lv_sub hl [4, 5, 6, 7, 2, 1, 0] rfl)
      · rw [if_neg t10] at h
        refine lv_iload hx hb dX11_booth_155 (lv_at hl 0 rfl) ?_
        refine lv_iload hx hb dX11_booth_157 (lv_at hl 1 rfl) ?_
        refine lv_isub hx hb dX11_booth_159 ?_
        refine lv_goto (tgt := 165) hx hb dX11_booth_160 (by decide) ?_
        refine lv_istore (lv' := [(9, .int (v2 - v2)), (8, .int v2), (11, .int v2), (0, .ref (ad 0)), (4, .int x4), (5, .int x5), (7, .int x7), (10, .int x10)]) hx hb dX11_booth_165 hl (by decide) rfl (fun ls hl => ?_)
        refine lv_iinc (v := x10 + 1) (lv' := [(10, .int (x10 + 1)), (9, .int (v2 - v2)), (8, .int v2), (11, .int v2), (0, .ref (ad 0)), (4, .int x4), (5, .int x5), (7, .int x7)]) hx hb dX11_booth_167 hl (k := 7) rfl rfl (by decide) rfl (fun ls hl => ?_)
        refine lv_goto (tgt := 99) hx hb dX11_booth_170 (by decide) ?_
        obtain rfl := Option.some.inj h
        exact hn _ rfl _ _ _ hw (lv_sub hl [4, 5, 6, 7, 2, 1, 0] rfl)
theorem hX11_booth : yX11_booth.cls = RX11 ∧ yX11_booth.cls ≠ "java/lang/invoke/MethodHandle" ∧ yX11_booth.cls ≠ "java/lang/invoke/VarHandle" ∧ (parseMethodDescriptor yX11_booth.desc).map (fun d => d.parameters.length) = some 5 := by decide +kernel
set_option maxHeartbeats 4000000 in
set_option maxRecDepth 100000 in
theorem kX11_booth (l : Launch) (D : va_G) (g : zG) (ad : Nat → Nat) (σ : zSt) (x1 : Int32) (x2 : Int32) (x3 : Int32) (x4 : Int32) (x5 : Int32) (o : Int32 × zSt) (h : fX11_booth σ x1 x2 x3 x4 x5 = some o) : zMi l D g 1 ad yX11_booth (Cond.code yX11_booth cX11_booth 12 (some .int) :: zws) (zRm 2) [.ref (ad 0), .int x1, .int x2, .int x3, .int x4, .int x5] σ o.1 o.2 := by
  refine z_enter_i (by decide) (Nat.le_of_ble_eq_true rfl) ?_
  intro p e s m below meth c A ls Q C hw hl hret
  obtain ⟨hx, hb, hml, hown, hts, hK, hA⟩ := id C
  have hown : s.vm.findClass RX11 = some m.cls := hown
  have C : zCx p c cX11_booth s _ RX11 m 12 A s.heap D g := C
  have hl : lv_has ls 12 [(0, .ref (ad 0)), (1, .int x1), (2, .int x2), (3, .int x3), (4, .int x4), (5, .int x5)] := hl
  unfold fX11_booth at h
  refine lv_aload_n hx hb dX11_booth_0 rfl (lv_at hl 0 rfl) ?_
  refine lv_iconst (v := 0) hx hb dX11_booth_1 (by decide) ?_
  refine z_puti hx hb hts zin_X11 tyX11_ok nmX11 hown hK hw zF1_0_0 (hts _ zw_838) zY1_0_0 dX11_booth_2 (fun H locs hw => ?_)
  refine lv_iload_n hx hb dX11_booth_5 rfl (lv_at hl 1 rfl) ?_
  refine z_cSi (As := [.int x1]) (rest := []) ⟨hx, hb, hml, hown, hts⟩ hK hw hA (kX11_isSheet l D g ad (zwI σ 0 0 (0 : Int32)) x1 _ rfl) (zcwS 1 hts zgoodIn zw_927 zw_928 zw_64 zw_929 rfl rfl hX11_isSheet ⟨Nat.le_of_ble_eq_true rfl, Nat.le_of_ble_eq_true rfl⟩) rfl hl.1 rfl (Nat.le_of_ble_eq_true rfl) dX11_booth_6 ⟨Nat.zero_le _, Nat.zero_le _⟩ (fun H locs hw => ?_)
  refine lv_if_ne (tgt := 14) hx hb dX11_booth_9 (by decide) (fun t1 => ?_) (fun t1 => ?_)
  · rw [if_neg t1] at h
    refine lv_iload_n hx hb dX11_booth_14 rfl (lv_at hl 2 rfl) ?_
    refine z_cSi (As := [.int x2]) (rest := []) ⟨hx, hb, hml, hown, hts⟩ hK hw hA (kX11_isSort l D g ad (zwI σ 0 0 (0 : Int32)) x2 _ rfl) (zcwS 1 hts zgoodIn zw_933 zw_934 zw_64 zw_935 rfl rfl hX11_isSort ⟨Nat.le_of_ble_eq_true rfl, Nat.le_of_ble_eq_true rfl⟩) rfl hl.1 rfl (Nat.le_of_ble_eq_true rfl) dX11_booth_15 ⟨Nat.zero_le _, Nat.zero_le _⟩ (fun H locs hw => ?_)
    refine lv_if_eq (tgt := 31) hx hb dX11_booth_18 (by decide) (fun t2 => ?_) (fun t2 => ?_)
    · rw [if_pos t2] at h
      refine lv_bipush (v := (-2)) hx hb dX11_booth_31 (by decide) ?_
      obtain rfl := Option.some.inj h
      exact hret _ _ _ _ hw rfl dX11_booth_33
    · rw [if_neg t2] at h
      refine lv_iload hx hb dX11_booth_21 (lv_at hl 5 rfl) ?_
      refine lv_iconst (v := 0) hx hb dX11_booth_23 (by decide) ?_
      refine lv_iconst (v := 2) hx hb dX11_booth_24 (by decide) ?_
      refine z_cSi (As := [.int x5, .int (0 : Int32), .int (2 : Int32)]) (rest := []) ⟨hx, hb, hml, hown, hts⟩ hK hw hA (kX11_within l D g ad (zwI σ 0 0 (0 : Int32)) x5 (0 : Int32) (2 : Int32) _ rfl) (zcwS 3 hts zgoodIn zw_930 zw_931 zw_64 zw_932 rfl rfl hX11_within ⟨Nat.le_of_ble_eq_true rfl, Nat.le_of_ble_eq_true rfl⟩) rfl hl.1 rfl (Nat.le_of_ble_eq_true rfl) dX11_booth_25 ⟨Nat.zero_le _, Nat.zero_le _⟩ (fun H locs hw => ?_)
      refine lv_if_ne (tgt := 34) hx hb dX11_booth_28 (by decide) (fun t3 => ?_) (fun t3 => ?_)
      · rw [if_neg t3] at h
        refine lv_aload_n hx hb dX11_booth_34 rfl (lv_at hl 0 rfl) ?_
        refine lv_iload_n hx hb dX11_booth_35 rfl (lv_at hl 1 rfl) ?_
        refine lv_iload_n hx hb dX11_booth_36 rfl (lv_at hl 2 rfl) ?_
        refine lv_iload_n hx hb dX11_booth_37 rfl (lv_at hl 3 rfl) ?_
        refine lv_iload hx hb dX11_booth_38 (lv_at hl 4 rfl) ?_
        obtain ⟨r4, e5, h⟩ := zbind h
        refine z_cVi (As := [.int x1, .int x2, .int x3, .int x4]) (rest := []) ⟨hx, hb, hml, hown, hts⟩ hK hw hA (kX11_against l D g ad (zwI σ 0 0 (0 : Int32)) x1 x2 x3 x4 r4 e5) (zcwV 4 hts zgoodIn zw_936 zw_938 zw_24 zw_64 zw_939 rfl rfl hX11_against ⟨Nat.le_of_ble_eq_true rfl, Nat.le_of_ble_eq_true rfl⟩) zO1_0 rfl hl.1 rfl (Nat.le_of_ble_eq_true rfl) dX11_booth_40 ⟨Nat.zero_le _, Nat.zero_le _⟩ (fun H locs hw => ?_)
        refine lv_istore (lv' := [(6, .int r4), (0, .ref (ad 0)), (1, .int x1), (2, .int x2), (3, .int x3), (4, .int x4), (5, .int x5)]) hx hb dX11_booth_43 hl (by decide) rfl (fun ls hl => ?_)
        refine lv_iload hx hb dX11_booth_45 (lv_at hl 0 rfl) ?_
        refine lv_if_eq (tgt := 57) hx hb dX11_booth_47 (by decide) (fun t6 => ?_) (fun t6 => ?_)
        · rw [if_pos t6] at h
          refine lv_bipush (v := 120) hx hb dX11_booth_57 (by decide) ?_
          refine lv_iload_n hx hb dX11_booth_59 rfl (lv_at hl 2 rfl) ?_
          refine lv_imul hx hb dX11_booth_60 ?_
          refine lv_iload_n hx hb dX11_booth_61 rfl (lv_at hl 4 rfl) ?_
          refine lv_iadd hx hb dX11_booth_62 ?_
          refine lv_istore (lv' := [(7, .int (((120 : Int32) * x1) + x3)), (6, .int r4), (0, .ref (ad 0)), (1, .int x1), (2, .int x2), (3, .int x3), (4, .int x4), (5, .int x5)]) hx hb dX11_booth_63 hl (by decide) rfl (fun ls hl => ?_)
          refine lv_iload hx hb dX11_booth_65 (lv_at hl 6 rfl) ?_
          refine lv_iconst (v := 1) hx hb dX11_booth_67 (by decide) ?_
          refine lv_bipush (v := 9) hx hb dX11_booth_68 (by decide) ?_
          refine z_cSi (As := [.int x4, .int (1 : Int32), .int (9 : Int32)]) (rest := []) ⟨hx, hb, hml, hown, hts⟩ hK hw hA (kX11_within l D g ad (zwI σ 0 0 (0 : Int32)) x4 (1 : Int32) (9 : Int32) _ rfl) (zcwS 3 hts zgoodIn zw_930 zw_931 zw_64 zw_932 rfl rfl hX11_within ⟨Nat.le_of_ble_eq_true rfl, Nat.le_of_ble_eq_true rfl⟩) rfl hl.1 rfl (Nat.le_of_ble_eq_true rfl) dX11_booth_70 ⟨Nat.zero_le _, Nat.zero_le _⟩ (fun H locs hw => ?_)
          refine lv_if_eq (tgt := 87) hx hb dX11_booth_73 (by decide) (fun t7 => ?_) (fun t7 => ?_)
          · rw [if_pos t7] at h
            refine lv_bipush (v := (-2)) hx hb dX11_booth_87 (by decide) ?_
            obtain rfl := Option.some.inj h
            exact hret _ _ _ _ hw rfl dX11_booth_89
          · rw [if_neg t7] at h
            refine lv_aload_n hx hb dX11_booth_76 rfl (lv_at hl 2 rfl) ?_
            refine lv_iload hx hb dX11_booth_77 (lv_at hl 0 rfl) ?_
            refine lv_iload hx hb dX11_booth_79 (lv_at hl 6 rfl) ?_
            obtain ⟨r8, e9, h⟩ := zbind h
            refine z_cVi (As := [.int (((120 : Int32) * x1) + x3), .int x4]) (rest := []) ⟨hx, hb, hml, hown, hts⟩ hK hw hA (kX11_isOrder l D g ad (zwI σ 0 0 (0 : Int32)) (((120 : Int32) * x1) + x3) x4 r8 e9) (zcwV 2 hts zgoodIn zw_1156 zw_1158 zw_48 zw_64 zw_1159 rfl rfl hX11_isOrder ⟨Nat.le_of_ble_eq_true rfl, Nat.le_of_ble_eq_true rfl⟩) zO1_0 rfl hl.1 rfl (Nat.le_of_ble_eq_true rfl) dX11_booth_81 ⟨Nat.zero_le _, Nat.zero_le _⟩ (fun H locs hw => ?_)
            refine lv_if_ne (tgt := 90) hx hb dX11_booth_84 (by decide) (fun t10 => ?_) (fun t10 => ?_)
            · rw [if_neg t10] at h
              refine lv_iconst (v := (-1)) hx hb dX11_booth_90 (by decide) ?_
              refine lv_istore (lv' := [(8, .int (-1 : Int32)), (7, .int (((120 : Int32) * x1) + x3)), (6, .int r4), (0, .ref (ad 0)), (1, .int x1), (2, .int x2), (3, .int x3), (4, .int x4), (5, .int x5)]) hx hb dX11_booth_91 hl (by decide) rfl (fun ls hl => ?_)
              refine lv_iconst (v := 0) hx hb dX11_booth_93 (by decide) ?_
              refine lv_istore (lv' := [(9, .int (0 : Int32)), (8, .int (-1 : Int32)), (7, .int (((120 : Int32) * x1) + x3)), (6, .int r4), (0, .ref (ad 0)), (1, .int x1), (2, .int x2), (3, .int x3), (4, .int x4), (5, .int x5)]) hx hb dX11_booth_94 hl (by decide) rfl (fun ls hl => ?_)
              refine lv_iconst (v := 0) hx hb dX11_booth_96 (by decide) ?_
              refine lv_istore (lv' := [(10, .int (0 : Int32)), (9, .int (0 : Int32)), (8, .int (-1 : Int32)), (7, .int (((120 : Int32) * x1) + x3)), (6, .int r4), (0, .ref (ad 0)), (1, .int x1), (2, .int x2), (3, .int x3), (4, .int x4), (5, .int x5)]) hx hb dX11_booth_97 hl (by decide) rfl (fun ls hl => ?_)
              obtain ⟨b11, e12, h⟩ := zbind h
              refine wX11_booth_99 C x4 x5 (((120 : Int32) * x1) + x3) zFU ((-1 : Int32), (0 : Int32), (0 : Int32), zwI σ 0 0 (0 : Int32)) b11 e12 (fun H locs ls hw hl => ?_) _ _ _ hw (lv_sub hl [5, 9, 10, 3, 2, 1, 0] rfl)
              have hl : lv_has ls 12 [(0, .ref (ad 0)), (4, .int x4), (5, .int x5), (7, .int (((120 : Int32) * x1) + x3)), (8, .int b11.1), (9, .int b11.2.1), (10, .int b11.2.2.1)] := hl
              refine lv_iload hx hb dX11_booth_173 (lv_at hl 2 rfl) ?_
              refine lv_if_ne (tgt := 183) hx hb dX11_booth_175 (by decide) (fun t13 => ?_) (fun t13 => ?_)
              · rw [if_neg t13] at h
                refine lv_iload hx hb dX11_booth_183 (lv_at hl 2 rfl) ?_
                refine lv_iconst (v := 1) hx hb dX11_booth_185 (by decide) ?_
                refine lv_icmp_ne (tgt := 200) hx hb dX11_booth_186 (by decide) (fun t14 => ?_) (fun t14 => ?_)
                · rw [if_neg t14] at h
                  refine lv_iload hx hb dX11_booth_200 (lv_at hl 5 rfl) ?_
                  obtain rfl := Option.some.inj h
                  exact hret _ _ _ _ hw rfl dX11_booth_202
                · rw [if_pos t14] at h
                  refine lv_aload_n hx hb dX11_booth_189 rfl (lv_at hl 0 rfl) ?_
                  refine lv_iload hx hb dX11_booth_190 (lv_at hl 1 rfl) ?_
                  refine lv_iload hx hb dX11_booth_192 (lv_at hl 4 rfl) ?_
                  obtain ⟨r15, e16, h⟩ := zbind h
                  refine z_cVi (As := [.int x4, .int b11.1]) (rest := []) ⟨hx, hb, hml, hown, hts⟩ hK hw hA (kX11_held l D g ad b11.2.2.2 x4 b11.1 r15 e16) (zcwV 2 hts zgoodIn zw_1160 zw_1162 zw_49 zw_64 zw_1163 rfl rfl hX11_held ⟨Nat.le_of_ble_eq_true rfl, Nat.le_of_ble_eq_true rfl⟩) zO1_0 rfl hl.1 rfl (Nat.le_of_ble_eq_true rfl) dX11_booth_194 ⟨Nat.zero_le _, Nat.zero_le _⟩ (fun H locs hw => ?_)
                  refine lv_goto (tgt := 202) hx hb dX11_booth_197 (by decide) ?_
                  obtain rfl := Option.some.inj h
                  exact hret _ _ _ _ hw rfl dX11_booth_202
              · rw [if_pos t13] at h
                refine lv_iload hx hb dX11_booth_178 (lv_at hl 4 rfl) ?_
                refine lv_goto (tgt := 202) hx hb dX11_booth_180 (by decide) ?_
                obtain rfl := Option.some.inj h
                exact hret _ _ _ _ hw rfl dX11_booth_202
            · rw [if_pos t10] at h
              refine lv_bipush (v := (-2)) hx hb dX11_booth_87 (by decide) ?_
              obtain rfl := Option.some.inj h
              exact hret _ _ _ _ hw rfl dX11_booth_89
        · rw [if_neg t6] at h
          refine lv_aload_n hx hb dX11_booth_50 rfl (lv_at hl 1 rfl) ?_
          refine lv_iload hx hb dX11_booth_51 (lv_at hl 0 rfl) ?_
          refine z_cVi (As := [.int r4]) (rest := []) ⟨hx, hb, hml, hown, hts⟩ hK hw hA (kX11_fails l D g ad (zwI σ 0 0 (0 : Int32)) r4 _ rfl) (zcwV 1 hts zgoodIn zw_940 zw_942 zw_25 zw_64 zw_943 rfl rfl hX11_fails ⟨Nat.le_of_ble_eq_true rfl, Nat.le_of_ble_eq_true rfl⟩) zO1_0 rfl hl.1 rfl (Nat.le_of_ble_eq_true rfl) dX11_booth_53 ⟨Nat.zero_le _, Nat.zero_le _⟩ (fun H locs hw => ?_)
          obtain rfl := Option.some.inj h
          exact hret _ _ _ _ hw rfl dX11_booth_56
      · rw [if_pos t3] at h
        refine lv_bipush (v := (-2)) hx hb dX11_booth_31 (by decide) ?_
        obtain rfl := Option.some.inj h
        exact hret _ _ _ _ hw rfl dX11_booth_33
  · rw [if_pos t1] at h
    refine lv_iconst (v := (-1)) hx hb dX11_booth_12 (by decide) ?_
    obtain rfl := Option.some.inj h
    exact hret _ _ _ _ hw rfl dX11_booth_13
