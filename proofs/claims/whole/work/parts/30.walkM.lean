/-! walks: X11_times, X11_allWords, X11_heard, X11_isAsked, X11_reached, X11_saidBy, X11_said, X11_overOf, X11_over, X11_ask, X11_turn -/
set_option maxHeartbeats 4000000 in
set_option maxRecDepth 100000 in
theorem wX11_times_43 {p : Program} {l : Launch} {e : Env} {s : State} {m : MethodId} {args : Array Value} {below : List Frame} {meth : Method} {c : Code} {A : Nat → Prop} {H0 : Heap} {Q : State → Prop} {D : va_G} {g : zG} {ad : Nat → Nat} (C : zCx p c cX11_times s args RX11 m 10 A H0 D g) (σ : zSt) (x1 : Int32) (x2 : Int32) (x3 : Int32) (x4 : Int32) (x5 : Int32) (x7 : Int32) (x8 : Int32) (n : Nat) (a : (Int32 × Int32)) (b : (Int32 × Int32)) (h : zLp (fun a => bX11_times_43 σ x1 x2 x3 x4 x5 x7 x8 a.1 a.2) n a = some b) (hk : ∀ (H : Heap) (locs : List Loc) (ls : Array Slot), zH D g 1 ad A H0 σ H locs → lv_has ls 10 [(0, .ref (ad 0)), (1, .int x1), (2, .int x2), (3, .int x3), (4, .int x4), (5, .int x5), (6, .int b.1), (7, .int x7), (8, .int x8), (9, .int b.2)] → W p l e (zRm 4) s m args below meth c H locs 0 0 Q (F0 m 103 ls [])) : ∀ (H : Heap) (locs : List Loc) (ls : Array Slot), zH D g 1 ad A H0 σ H locs → lv_has ls 10 [(0, .ref (ad 0)), (1, .int x1), (2, .int x2), (3, .int x3), (4, .int x4), (5, .int x5), (6, .int a.1), (7, .int x7), (8, .int x8), (9, .int a.2)] → W p l e (zRm 4) s m args below meth c H locs 0 0 Q (F0 m 43 ls []) := by
  obtain ⟨hx, hb, hml, hown, hts, hK, hA⟩ := id C
  refine zLp_walk (P := fun (a : (Int32 × Int32)) => ∀ (H : Heap) (locs : List Loc) (ls : Array Slot), zH D g 1 ad A H0 σ H locs → lv_has ls 10 [(0, .ref (ad 0)), (1, .int x1), (2, .int x2), (3, .int x3), (4, .int x4), (5, .int x5), (6, .int a.1), (7, .int x7), (8, .int x8), (9, .int a.2)] → W p l e (zRm 4) s m args below meth c H locs 0 0 Q (F0 m 43 ls [])) (E := fun (b' : (Int32 × Int32)) => b' = b) ?_ n a b h rfl
  intro a r h hn he H locs ls hw hl
  obtain ⟨x6, x9⟩ := a
  have h : bX11_times_43 σ x1 x2 x3 x4 x5 x7 x8 x6 x9 = some r := h
  have hl : lv_has ls 10 [(0, .ref (ad 0)), (1, .int x1), (2, .int x2), (3, .int x3), (4, .int x4), (5, .int x5), (6, .int x6), (7, .int x7), (8, .int x8), (9, .int x9)] := hl
  have hw : zH D g 1 ad A H0 σ H locs := hw
  unfold bX11_times_43 at h
  refine lv_iload hx hb dX11_times_43 (lv_at hl 9 rfl) ?_
  refine lv_aload_n hx hb dX11_times_45 rfl (lv_at hl 0 rfl) ?_
  refine z_geti hx hb hts zin_X11 hown hK hw zF1_0_5 (hts _ zw_843) dX11_times_46 ?_
  refine lv_icmp_ge (tgt := 103) hx hb dX11_times_49 (by decide) (fun t1 => ?_) (fun t1 => ?_)
  · rw [if_pos t1] at h
    obtain rfl := Option.some.inj h
    obtain rfl := he _ rfl
    exact hk _ _ _ hw (lv_sub hl [0, 1, 2, 3, 4, 5, 6, 7, 8, 9] rfl)
  · rw [if_neg t1] at h
    refine lv_iload hx hb dX11_times_52 (lv_at hl 8 rfl) ?_
    refine lv_if_le (tgt := 103) hx hb dX11_times_54 (by decide) (fun t2 => ?_) (fun t2 => ?_)
    · rw [if_pos t2] at h
      obtain rfl := Option.some.inj h
      obtain rfl := he _ rfl
      exact hk _ _ _ hw (lv_sub hl [0, 1, 2, 3, 4, 5, 6, 7, 8, 9] rfl)
    · rw [if_neg t2] at h
      refine lv_iload hx hb dX11_times_57 (lv_at hl 6 rfl) ?_
      refine lv_iload hx hb dX11_times_59 (lv_at hl 5 rfl) ?_
      refine lv_iload hx hb dX11_times_61 (lv_at hl 9 rfl) ?_
      refine z_cSi (As := [.int x5, .int x9]) (rest := [.int x6]) ⟨hx, hb, hml, hown, hts⟩ hK hw hA (kX11_has l D g ad σ x5 x9 _ rfl) (zcwS 2 hts zgoodIn zw_1074 zw_1075 zw_64 zw_1076 rfl rfl hX11_has ⟨Nat.le_of_ble_eq_true rfl, Nat.le_of_ble_eq_true rfl⟩) rfl hl.1 rfl (Nat.le_of_ble_eq_true rfl) dX11_times_63 ⟨Nat.zero_le _, Nat.zero_le _⟩ (fun H locs hw => ?_)
      refine lv_if_eq (tgt := 93) hx hb dX11_times_66 (by decide) (fun t3 => ?_) (fun t3 => ?_)
      · rw [if_pos t3] at h
        refine lv_iconst (v := 0) hx hb dX11_times_93 (by decide) ?_
        refine lv_iadd hx hb dX11_times_94 ?_
        refine lv_istore (lv' := [(6, .int (x6 + (0 : Int32))), (0, .ref (ad 0)), (1, .int x1), (2, .int x2), (3, .int x3), (4, .int x4), (5, .int x5), (7, .int x7), (8, .int x8), (9, .int x9)]) hx hb dX11_times_95 hl (by decide) rfl (fun ls hl => ?_)
        refine lv_iinc (v := x9 + 1) (lv' := [(9, .int (x9 + 1)), (6, .int (x6 + (0 : Int32))), (0, .ref (ad 0)), (1, .int x1), (2, .int x2), (3, .int x3), (4, .int x4), (5, .int x5), (7, .int x7), (8, .int x8)]) hx hb dX11_times_97 hl (k := 9) rfl rfl (by decide) rfl (fun ls hl => ?_)
        refine lv_goto (tgt := 43) hx hb dX11_times_100 (by decide) ?_
        obtain rfl := Option.some.inj h
        exact hn _ rfl _ _ _ hw (lv_sub hl [2, 3, 4, 5, 6, 7, 1, 8, 9, 0] rfl)
      · rw [if_neg t3] at h
        refine lv_iload hx hb dX11_times_69 (lv_at hl 8 rfl) ?_
        refine lv_aload_n hx hb dX11_times_71 rfl (lv_at hl 0 rfl) ?_
        refine lv_iload hx hb dX11_times_72 (lv_at hl 7 rfl) ?_
        refine lv_iload hx hb dX11_times_74 (lv_at hl 9 rfl) ?_
        obtain ⟨r4, e5, h⟩ := zbind h
        refine z_cVi (As := [.int x7, .int x9]) (rest := [.int x8, .int x6]) ⟨hx, hb, hml, hown, hts⟩ hK hw hA (kX11_answered l D g ad σ x7 x9 r4 e5) (zcwV 2 hts zgoodIn zw_1057 zw_1059 zw_39 zw_64 zw_1060 rfl rfl hX11_answered ⟨Nat.le_of_ble_eq_true rfl, Nat.le_of_ble_eq_true rfl⟩) zO1_0 rfl hl.1 rfl (Nat.le_of_ble_eq_true rfl) dX11_times_76 ⟨Nat.zero_le _, Nat.zero_le _⟩ (fun H locs hw => ?_)
        refine lv_imul hx hb dX11_times_79 ?_
        refine lv_aload_n hx hb dX11_times_80 rfl (lv_at hl 0 rfl) ?_
        refine lv_iload_n hx hb dX11_times_81 rfl (lv_at hl 1 rfl) ?_
        refine lv_iconst (v := 1) hx hb dX11_times_82 (by decide) ?_
        refine lv_iload hx hb dX11_times_83 (lv_at hl 9 rfl) ?_
        refine lv_iload_n hx hb dX11_times_85 rfl (lv_at hl 3 rfl) ?_
        obtain ⟨r6, e7, h⟩ := zbind h
        refine z_cVi (As := [.int x1, .int (1 : Int32), .int x9, .int x3]) (rest := [.int (x8 * r4), .int x6]) ⟨hx, hb, hml, hown, hts⟩ hK hw hA (kX11_carried l D g ad σ x1 (1 : Int32) x9 x3 r6 e7) (zcwV 4 hts zgoodIn zw_1013 zw_1015 zw_34 zw_64 zw_1016 rfl rfl hX11_carried ⟨Nat.le_of_ble_eq_true rfl, Nat.le_of_ble_eq_true rfl⟩) zO1_0 rfl hl.1 rfl (Nat.le_of_ble_eq_true rfl) dX11_times_86 ⟨Nat.zero_le _, Nat.zero_le _⟩ (fun H locs hw => ?_)
        refine lv_imul hx hb dX11_times_89 ?_
        refine lv_goto (tgt := 94) hx hb dX11_times_90 (by decide) ?_
        refine lv_iadd hx hb dX11_times_94 ?_
        refine lv_istore (lv' := [(6, .int (x6 + ((x8 * r4) * r6))), (0, .ref (ad 0)), (1, .int x1), (2, .int x2), (3, .int x3), (4, .int x4), (5, .int x5), (7, .int x7), (8, .int x8), (9, .int x9)]) hx hb dX11_times_95 hl (by decide) rfl (fun ls hl => ?_)
        refine lv_iinc (v := x9 + 1) (lv' := [(9, .int (x9 + 1)), (6, .int (x6 + ((x8 * r4) * r6))), (0, .ref (ad 0)), (1, .int x1), (2, .int x2), (3, .int x3), (4, .int x4), (5, .int x5), (7, .int x7), (8, .int x8)]) hx hb dX11_times_97 hl (k := 9) rfl rfl (by decide) rfl (fun ls hl => ?_)
        refine lv_goto (tgt := 43) hx hb dX11_times_100 (by decide) ?_
        obtain rfl := Option.some.inj h
        exact hn _ rfl _ _ _ hw (lv_sub hl [2, 3, 4, 5, 6, 7, 1, 8, 9, 0] rfl)
set_option maxHeartbeats 4000000 in
set_option maxRecDepth 100000 in
theorem wX11_times_6 {p : Program} {l : Launch} {e : Env} {s : State} {m : MethodId} {args : Array Value} {below : List Frame} {meth : Method} {c : Code} {A : Nat → Prop} {H0 : Heap} {Q : State → Prop} {D : va_G} {g : zG} {ad : Nat → Nat} (C : zCx p c cX11_times s args RX11 m 10 A H0 D g) (σ : zSt) (x1 : Int32) (x2 : Int32) (x3 : Int32) (x4 : Int32) (x5 : Int32) (n : Nat) (a : (Int32 × Int32)) (b : (Int32 × Int32)) (h : zLp (fun a => bX11_times_6 σ x1 x2 x3 x4 x5 a.1 a.2) n a = some b) (hk : ∀ (H : Heap) (locs : List Loc) (ls : Array Slot), zH D g 1 ad A H0 σ H locs → lv_has ls 10 [(0, .ref (ad 0)), (1, .int x1), (2, .int x2), (3, .int x3), (4, .int x4), (5, .int x5), (6, .int b.1), (7, .int b.2)] → W p l e (zRm 4) s m args below meth c H locs 0 0 Q (F0 m 109 ls [])) : ∀ (H : Heap) (locs : List Loc) (ls : Array Slot), zH D g 1 ad A H0 σ H locs → lv_has ls 10 [(0, .ref (ad 0)), (1, .int x1), (2, .int x2), (3, .int x3), (4, .int x4), (5, .int x5), (6, .int a.1), (7, .int a.2)] → W p l e (zRm 4) s m args below meth c H locs 0 0 Q (F0 m 6 ls []) := by
  obtain ⟨hx, hb, hml, hown, hts, hK, hA⟩ := id C
  refine zLp_walk (P := fun (a : (Int32 × Int32)) => ∀ (H : Heap) (locs : List Loc) (ls : Array Slot), zH D g 1 ad A H0 σ H locs → lv_has ls 10 [(0, .ref (ad 0)), (1, .int x1), (2, .int x2), (3, .int x3), (4, .int x4), (5, .int x5), (6, .int a.1), (7, .int a.2)] → W p l e (zRm 4) s m args below meth c H locs 0 0 Q (F0 m 6 ls [])) (E := fun (b' : (Int32 × Int32)) => b' = b) ?_ n a b h rfl
  intro a r h hn he H locs ls hw hl
  obtain ⟨x6, x7⟩ := a
  have h : bX11_times_6 σ x1 x2 x3 x4 x5 x6 x7 = some r := h
  have hl : lv_has ls 10 [(0, .ref (ad 0)), (1, .int x1), (2, .int x2), (3, .int x3), (4, .int x4), (5, .int x5), (6, .int x6), (7, .int x7)] := hl
  have hw : zH D g 1 ad A H0 σ H locs := hw
  unfold bX11_times_6 at h
  refine lv_iload hx hb dX11_times_6 (lv_at hl 7 rfl) ?_
  refine lv_aload_n hx hb dX11_times_8 rfl (lv_at hl 0 rfl) ?_
  refine z_geti hx hb hts zin_X11 hown hK hw zF1_0_5 (hts _ zw_843) dX11_times_9 ?_
  refine lv_icmp_ge (tgt := 109) hx hb dX11_times_12 (by decide) (fun t1 => ?_) (fun t1 => ?_)
  · rw [if_pos t1] at h
    obtain rfl := Option.some.inj h
    obtain rfl := he _ rfl
    exact hk _ _ _ hw (lv_sub hl [0, 1, 2, 3, 4, 5, 6, 7] rfl)
  · rw [if_neg t1] at h
    refine lv_iload hx hb dX11_times_15 (lv_at hl 4 rfl) ?_
    refine lv_iload hx hb dX11_times_17 (lv_at hl 7 rfl) ?_
    refine z_cSi (As := [.int x4, .int x7]) (rest := []) ⟨hx, hb, hml, hown, hts⟩ hK hw hA (kX11_has l D g ad σ x4 x7 _ rfl) (zcwS 2 hts zgoodIn zw_1074 zw_1075 zw_64 zw_1076 rfl rfl hX11_has ⟨Nat.le_of_ble_eq_true rfl, Nat.le_of_ble_eq_true rfl⟩) rfl hl.1 rfl (Nat.le_of_ble_eq_true rfl) dX11_times_19 ⟨Nat.zero_le _, Nat.zero_le _⟩ (fun H locs hw => ?_)
    refine lv_if_eq (tgt := 37) hx hb dX11_times_22 (by decide) (fun t2 => ?_) (fun t2 => ?_)
    · rw [if_pos t2] at h
      refine lv_iconst (v := 0) hx hb dX11_times_37 (by decide) ?_
      refine lv_istore (lv' := [(8, .int (0 : Int32)), (0, .ref (ad 0)), (1, .int x1), (2, .int x2), (3, .int x3), (4, .int x4), (5, .int x5), (6, .int x6), (7, .int x7)]) hx hb dX11_times_38 hl (by decide) rfl (fun ls hl => ?_)
      refine lv_iconst (v := 0) hx hb dX11_times_40 (by decide) ?_
      refine lv_istore (lv' := [(9, .int (0 : Int32)), (8, .int (0 : Int32)), (0, .ref (ad 0)), (1, .int x1), (2, .int x2), (3, .int x3), (4, .int x4), (5, .int x5), (6, .int x6), (7, .int x7)]) hx hb dX11_times_41 hl (by decide) rfl (fun ls hl => ?_)
      obtain ⟨b3, e4, h⟩ := zbind h
      refine wX11_times_43 C σ x1 x2 x3 x4 x5 x7 (0 : Int32) zFU (x6, (0 : Int32)) b3 e4 (fun H locs ls hw hl => ?_) _ _ _ hw (lv_sub hl [2, 3, 4, 5, 6, 7, 8, 9, 1, 0] rfl)
      have hl : lv_has ls 10 [(0, .ref (ad 0)), (1, .int x1), (2, .int x2), (3, .int x3), (4, .int x4), (5, .int x5), (6, .int b3.1), (7, .int x7), (8, .int (0 : Int32)), (9, .int b3.2)] := hl
      refine lv_iinc (v := x7 + 1) (lv' := [(7, .int (x7 + 1)), (0, .ref (ad 0)), (1, .int x1), (2, .int x2), (3, .int x3), (4, .int x4), (5, .int x5), (6, .int b3.1), (8, .int (0 : Int32)), (9, .int b3.2)]) hx hb dX11_times_103 hl (k := 7) rfl rfl (by decide) rfl (fun ls hl => ?_)
      refine lv_goto (tgt := 6) hx hb dX11_times_106 (by decide) ?_
      obtain rfl := Option.some.inj h
      exact hn _ rfl _ _ _ hw (lv_sub hl [1, 2, 3, 4, 5, 6, 7, 0] rfl)
    · rw [if_neg t2] at h
      refine lv_aload_n hx hb dX11_times_25 rfl (lv_at hl 0 rfl) ?_
      refine lv_iload_n hx hb dX11_times_26 rfl (lv_at hl 1 rfl) ?_
      refine lv_iconst (v := 0) hx hb dX11_times_27 (by decide) ?_
      refine lv_iload_n hx hb dX11_times_28 rfl (lv_at hl 2 rfl) ?_
      refine lv_iload hx hb dX11_times_29 (lv_at hl 7 rfl) ?_
      obtain ⟨r5, e6, h⟩ := zbind h
      refine z_cVi (As := [.int x1, .int (0 : Int32), .int x2, .int x7]) (rest := []) ⟨hx, hb, hml, hown, hts⟩ hK hw hA (kX11_carried l D g ad σ x1 (0 : Int32) x2 x7 r5 e6) (zcwV 4 hts zgoodIn zw_1013 zw_1015 zw_34 zw_64 zw_1016 rfl rfl hX11_carried ⟨Nat.le_of_ble_eq_true rfl, Nat.le_of_ble_eq_true rfl⟩) zO1_0 rfl hl.1 rfl (Nat.le_of_ble_eq_true rfl) dX11_times_31 ⟨Nat.zero_le _, Nat.zero_le _⟩ (fun H locs hw => ?_)
      refine lv_goto (tgt := 38) hx hb dX11_times_34 (by decide) ?_
      refine lv_istore (lv' := [(8, .int r5), (0, .ref (ad 0)), (1, .int x1), (2, .int x2), (3, .int x3), (4, .int x4), (5, .int x5), (6, .int x6), (7, .int x7)]) hx hb dX11_times_38 hl (by decide) rfl (fun ls hl => ?_)
      refine lv_iconst (v := 0) hx hb dX11_times_40 (by decide) ?_
      refine lv_istore (lv' := [(9, .int (0 : Int32)), (8, .int r5), (0, .ref (ad 0)), (1, .int x1), (2, .int x2), (3, .int x3), (4, .int x4), (5, .int x5), (6, .int x6), (7, .int x7)]) hx hb dX11_times_41 hl (by decide) rfl (fun ls hl => ?_)
      obtain ⟨b7, e8, h⟩ := zbind h
      refine wX11_times_43 C σ x1 x2 x3 x4 x5 x7 r5 zFU (x6, (0 : Int32)) b7 e8 (fun H locs ls hw hl => ?_) _ _ _ hw (lv_sub hl [2, 3, 4, 5, 6, 7, 8, 9, 1, 0] rfl)
      have hl : lv_has ls 10 [(0, .ref (ad 0)), (1, .int x1), (2, .int x2), (3, .int x3), (4, .int x4), (5, .int x5), (6, .int b7.1), (7, .int x7), (8, .int r5), (9, .int b7.2)] := hl
      refine lv_iinc (v := x7 + 1) (lv' := [(7, .int (x7 + 1)), (0, .ref (ad 0)), (1, .int x1), (2, .int x2), (3, .int x3), (4, .int x4), (5, .int x5), (6, .int b7.1), (8, .int r5), (9, .int b7.2)]) hx hb dX11_times_103 hl (k := 7) rfl rfl (by decide) rfl (fun ls hl => ?_)
      refine lv_goto (tgt := 6) hx hb dX11_times_106 (by decide) ?_
      obtain rfl := Option.some.inj h
      exact hn _ rfl _ _ _ hw (lv_sub hl [1, 2, 3, 4, 5, 6, 7, 0] rfl)
theorem hX11_times : yX11_times.cls = RX11 ∧ yX11_times.cls ≠ "java/lang/invoke/MethodHandle" ∧ yX11_times.cls ≠ "java/lang/invoke/VarHandle" ∧ (parseMethodDescriptor yX11_times.desc).map (fun d => d.parameters.length) = some 5 := by decide +kernel
set_option maxHeartbeats 4000000 in
set_option maxRecDepth 100000 in
theorem kX11_times (l : Launch) (D : va_G) (g : zG) (ad : Nat → Nat) (σ : zSt) (x1 : Int32) (x2 : Int32) (x3 : Int32) (x4 : Int32) (x5 : Int32) (o : Int32) (h : fX11_times σ x1 x2 x3 x4 x5 = some o) : zMi l D g 1 ad yX11_times (Cond.code yX11_times cX11_times 10 (some .int) :: zws) (zRm 4) [.ref (ad 0), .int x1, .int x2, .int x3, .int x4, .int x5] σ o σ := by
  refine z_enter_i (by decide) (Nat.le_of_ble_eq_true rfl) ?_
  intro p e s m below meth c A ls Q C hw hl hret
  obtain ⟨hx, hb, hml, hown, hts, hK, hA⟩ := id C
  have hown : s.vm.findClass RX11 = some m.cls := hown
  have C : zCx p c cX11_times s _ RX11 m 10 A s.heap D g := C
  have hl : lv_has ls 10 [(0, .ref (ad 0)), (1, .int x1), (2, .int x2), (3, .int x3), (4, .int x4), (5, .int x5)] := hl
  unfold fX11_times at h
  refine lv_iconst (v := 0) hx hb dX11_times_0 (by decide) ?_
  refine lv_istore (lv' := [(6, .int (0 : Int32)), (0, .ref (ad 0)), (1, .int x1), (2, .int x2), (3, .int x3), (4, .int x4), (5, .int x5)]) hx hb dX11_times_1 hl (by decide) rfl (fun ls hl => ?_)
  refine lv_iconst (v := 0) hx hb dX11_times_3 (by decide) ?_
  refine lv_istore (lv' := [(7, .int (0 : Int32)), (6, .int (0 : Int32)), (0, .ref (ad 0)), (1, .int x1), (2, .int x2), (3, .int x3), (4, .int x4), (5, .int x5)]) hx hb dX11_times_4 hl (by decide) rfl (fun ls hl => ?_)
  obtain ⟨b1, e2, h⟩ := zbind h
  refine wX11_times_6 C σ x1 x2 x3 x4 x5 zFU ((0 : Int32), (0 : Int32)) b1 e2 (fun H locs ls hw hl => ?_) _ _ _ hw (lv_sub hl [2, 3, 4, 5, 6, 7, 1, 0] rfl)
  have hl : lv_has ls 10 [(0, .ref (ad 0)), (1, .int x1), (2, .int x2), (3, .int x3), (4, .int x4), (5, .int x5), (6, .int b1.1), (7, .int b1.2)] := hl
  refine lv_iload hx hb dX11_times_109 (lv_at hl 6 rfl) ?_
  obtain rfl := Option.some.inj h
  exact hret _ _ _ _ hw rfl dX11_times_111
theorem hX11_allWords : yX11_allWords.cls = RX11 ∧ yX11_allWords.cls ≠ "java/lang/invoke/MethodHandle" ∧ yX11_allWords.cls ≠ "java/lang/invoke/VarHandle" ∧ (parseMethodDescriptor yX11_allWords.desc).map (fun d => d.parameters.length) = some 0 := by decide +kernel
set_option maxHeartbeats 4000000 in
set_option maxRecDepth 100000 in
theorem kX11_allWords (l : Launch) (D : va_G) (g : zG) (ad : Nat → Nat) (σ : zSt) (o : Int32) (h : fX11_allWords σ = o) : zMi l D g 1 ad yX11_allWords (Cond.code yX11_allWords cX11_allWords 1 (some .int) :: zws) (zRm 0) [.ref (ad 0)] σ o σ := by
  refine z_enter_i (by decide) (Nat.le_of_ble_eq_true rfl) ?_
  intro p e s m below meth c A ls Q C hw hl hret
  obtain ⟨hx, hb, hml, hown, hts, hK, hA⟩ := id C
  have hown : s.vm.findClass RX11 = some m.cls := hown
  have C : zCx p c cX11_allWords s _ RX11 m 1 A s.heap D g := C
  have hl : lv_has ls 1 [(0, .ref (ad 0))] := hl
  unfold fX11_allWords at h
  refine lv_iconst (v := 1) hx hb dX11_allWords_0 (by decide) ?_
  refine lv_aload_n hx hb dX11_allWords_1 rfl (lv_at hl 0 rfl) ?_
  refine z_geti hx hb hts zin_X11 hown hK hw zF1_0_5 (hts _ zw_843) dX11_allWords_2 ?_
  refine lv_ishl hx hb dX11_allWords_5 ?_
  refine lv_iconst (v := 1) hx hb dX11_allWords_6 (by decide) ?_
  refine lv_isub hx hb dX11_allWords_7 ?_
  subst h
  exact hret _ _ _ _ hw rfl dX11_allWords_8
set_option maxHeartbeats 4000000 in
set_option maxRecDepth 100000 in
theorem wX11_heard_50 {p : Program} {l : Launch} {e : Env} {s : State} {m : MethodId} {args : Array Value} {below : List Frame} {meth : Method} {c : Code} {A : Nat → Prop} {H0 : Heap} {Q : State → Prop} {D : va_G} {g : zG} {ad : Nat → Nat} (C : zCx p c cX11_heard s args RX11 m 7 A H0 D g) (σ : zSt) (x1 : Int32) (x2 : Int32) (x3 : Int32) (x4 : Int32) (n : Nat) (a : (Int32 × Int32)) (b : (Int32 × Int32)) (h : zLp (fun a => bX11_heard_50 σ x1 x2 x3 x4 a.1 a.2) n a = some b) (hk : ∀ (H : Heap) (locs : List Loc) (ls : Array Slot), zH D g 1 ad A H0 σ H locs → lv_has ls 7 [(0, .ref (ad 0)), (1, .int x1), (2, .int x2), (3, .int x3), (4, .int x4), (5, .int b.1), (6, .int b.2)] → W p l e (zRm 5) s m args below meth c H locs 0 0 Q (F0 m 86 ls [])) : ∀ (H : Heap) (locs : List Loc) (ls : Array Slot), zH D g 1 ad A H0 σ H locs → lv_has ls 7 [(0, .ref (ad 0)), (1, .int x1), (2, .int x2), (3, .int x3), (4, .int x4), (5, .int a.1), (6, .int a.2)] → W p l e (zRm 5) s m args below meth c H locs 0 0 Q (F0 m 50 ls []) := by
  obtain ⟨hx, hb, hml, hown, hts, hK, hA⟩ := id C
  refine zLp_walk (P := fun (a : (Int32 × Int32)) => ∀ (H : Heap) (locs : List Loc) (ls : Array Slot), zH D g 1 ad A H0 σ H locs → lv_has ls 7 [(0, .ref (ad 0)), (1, .int x1), (2, .int x2), (3, .int x3), (4, .int x4), (5, .int a.1), (6, .int a.2)] → W p l e (zRm 5) s m args below meth c H locs 0 0 Q (F0 m 50 ls [])) (E := fun (b' : (Int32 × Int32)) => b' = b) ?_ n a b h rfl
  intro a r h hn he H locs ls hw hl
  obtain ⟨x5, x6⟩ := a
  have h : bX11_heard_50 σ x1 x2 x3 x4 x5 x6 = some r := h
  have hl : lv_has ls 7 [(0, .ref (ad 0)), (1, .int x1), (2, .int x2), (3, .int x3), (4, .int x4), (5, .int x5), (6, .int x6)] := hl
  have hw : zH D g 1 ad A H0 σ H locs := hw
  unfold bX11_heard_50 at h
  refine lv_iload hx hb dX11_heard_50 (lv_at hl 6 rfl) ?_
  refine lv_aload_n hx hb dX11_heard_52 rfl (lv_at hl 0 rfl) ?_
  refine z_geti hx hb hts zin_X11 hown hK hw zF1_0_5 (hts _ zw_843) dX11_heard_53 ?_
  refine lv_icmp_ge (tgt := 86) hx hb dX11_heard_56 (by decide) (fun t1 => ?_) (fun t1 => ?_)
  · rw [if_pos t1] at h
    obtain rfl := Option.some.inj h
    obtain rfl := he _ rfl
    exact hk _ _ _ hw (lv_sub hl [0, 1, 2, 3, 4, 5, 6] rfl)
  · rw [if_neg t1] at h
    refine lv_iload hx hb dX11_heard_59 (lv_at hl 5 rfl) ?_
    refine lv_aload_n hx hb dX11_heard_61 rfl (lv_at hl 0 rfl) ?_
    refine lv_iload_n hx hb dX11_heard_62 rfl (lv_at hl 1 rfl) ?_
    refine lv_iload_n hx hb dX11_heard_63 rfl (lv_at hl 2 rfl) ?_
    refine lv_iload hx hb dX11_heard_64 (lv_at hl 6 rfl) ?_
    refine lv_aload_n hx hb dX11_heard_66 rfl (lv_at hl 0 rfl) ?_
    refine z_cVi (As := []) (rest := [.int x6, .int x2, .int x1, .ref (ad 0), .int x5]) ⟨hx, hb, hml, hown, hts⟩ hK hw hA (kX11_allWords l D g ad σ _ rfl) (zcwV 0 hts zgoodIn zw_1066 zw_1068 zw_40 zw_64 zw_1069 rfl rfl hX11_allWords ⟨Nat.le_of_ble_eq_true rfl, Nat.le_of_ble_eq_true rfl⟩) zO1_0 rfl hl.1 rfl (Nat.le_of_ble_eq_true rfl) dX11_heard_67 ⟨Nat.zero_le _, Nat.zero_le _⟩ (fun H locs hw => ?_)
    refine lv_aload_n hx hb dX11_heard_70 rfl (lv_at hl 0 rfl) ?_
    refine z_cVi (As := []) (rest := [.int (fX11_allWords σ), .int x6, .int x2, .int x1, .ref (ad 0), .int x5]) ⟨hx, hb, hml, hown, hts⟩ hK hw hA (kX11_allWords l D g ad σ _ rfl) (zcwV 0 hts zgoodIn zw_1066 zw_1068 zw_40 zw_64 zw_1069 rfl rfl hX11_allWords ⟨Nat.le_of_ble_eq_true rfl, Nat.le_of_ble_eq_true rfl⟩) zO1_0 rfl hl.1 rfl (Nat.le_of_ble_eq_true rfl) dX11_heard_71 ⟨Nat.zero_le _, Nat.zero_le _⟩ (fun H locs hw => ?_)
    obtain ⟨r2, e3, h⟩ := zbind h
    refine z_cVi (As := [.int x1, .int x2, .int x6, .int (fX11_allWords σ), .int (fX11_allWords σ)]) (rest := [.int x5]) ⟨hx, hb, hml, hown, hts⟩ hK hw hA (kX11_times l D g ad σ x1 x2 x6 (fX11_allWords σ) (fX11_allWords σ) r2 e3) (zcwV 5 hts zgoodIn zw_1070 zw_1072 zw_41 zw_64 zw_1073 rfl rfl hX11_times ⟨Nat.le_of_ble_eq_true rfl, Nat.le_of_ble_eq_true rfl⟩) zO1_0 rfl hl.1 rfl (Nat.le_of_ble_eq_true rfl) dX11_heard_74 ⟨Nat.zero_le _, Nat.zero_le _⟩ (fun H locs hw => ?_)
    refine lv_isub hx hb dX11_heard_77 ?_
    refine lv_istore (lv' := [(5, .int (x5 - r2)), (0, .ref (ad 0)), (1, .int x1), (2, .int x2), (3, .int x3), (4, .int x4), (6, .int x6)]) hx hb dX11_heard_78 hl (by decide) rfl (fun ls hl => ?_)
    refine lv_iinc (v := x6 + 1) (lv' := [(6, .int (x6 + 1)), (5, .int (x5 - r2)), (0, .ref (ad 0)), (1, .int x1), (2, .int x2), (3, .int x3), (4, .int x4)]) hx hb dX11_heard_80 hl (k := 6) rfl rfl (by decide) rfl (fun ls hl => ?_)
    refine lv_goto (tgt := 50) hx hb dX11_heard_83 (by decide) ?_
    obtain rfl := Option.some.inj h
    exact hn _ rfl _ _ _ hw (lv_sub hl [2, 3, 4, 5, 6, 1, 0] rfl)
theorem hX11_heard : yX11_heard.cls = RX11 ∧ yX11_heard.cls ≠ "java/lang/invoke/MethodHandle" ∧ yX11_heard.cls ≠ "java/lang/invoke/VarHandle" ∧ (parseMethodDescriptor yX11_heard.desc).map (fun d => d.parameters.length) = some 4 := by decide +kernel
set_option maxHeartbeats 4000000 in
set_option maxRecDepth 100000 in
theorem kX11_heard (l : Launch) (D : va_G) (g : zG) (ad : Nat → Nat) (σ : zSt) (x1 : Int32) (x2 : Int32) (x3 : Int32) (x4 : Int32) (o : Int64) (h : fX11_heard σ x1 x2 x3 x4 = some o) : zMl l D g 1 ad yX11_heard (Cond.code yX11_heard cX11_heard 7 (some .long) :: zws) (zRm 5) [.ref (ad 0), .int x1, .int x2, .int x3, .int x4] σ o σ := by
  refine z_enter_l (by decide) (Nat.le_of_ble_eq_true rfl) ?_
  intro p e s m below meth c A ls Q C hw hl hret
  obtain ⟨hx, hb, hml, hown, hts, hK, hA⟩ := id C
  have hown : s.vm.findClass RX11 = some m.cls := hown
  have C : zCx p c cX11_heard s _ RX11 m 7 A s.heap D g := C
  have hl : lv_has ls 7 [(0, .ref (ad 0)), (1, .int x1), (2, .int x2), (3, .int x3), (4, .int x4)] := hl
  unfold fX11_heard at h
  refine lv_aload_n hx hb dX11_heard_0 rfl (lv_at hl 0 rfl) ?_
  refine lv_iload_n hx hb dX11_heard_1 rfl (lv_at hl 1 rfl) ?_
  refine z_cVi (As := [.int x1]) (rest := []) ⟨hx, hb, hml, hown, hts⟩ hK hw hA (kX11_isInterpreter l D g ad σ x1 _ rfl) (zcwV 1 hts zgoodIn zw_1001 zw_1003 zw_33 zw_64 zw_1004 rfl rfl hX11_isInterpreter ⟨Nat.le_of_ble_eq_true rfl, Nat.le_of_ble_eq_true rfl⟩) zO1_0 rfl hl.1 rfl (Nat.le_of_ble_eq_true rfl) dX11_heard_2 ⟨Nat.zero_le _, Nat.zero_le _⟩ (fun H locs hw => ?_)
  refine lv_if_eq (tgt := 39) hx hb dX11_heard_5 (by decide) (fun t1 => ?_) (fun t1 => ?_)
  · rw [if_pos t1] at h
    refine lv_ldc2 hx hb hown (hts _ zw_1029) dX11_heard_39 ?_
    obtain rfl := Option.some.inj h
    exact hret _ _ _ _ hw dX11_heard_42
  · rw [if_neg t1] at h
    refine lv_aload_n hx hb dX11_heard_8 rfl (lv_at hl 0 rfl) ?_
    refine lv_iload_n hx hb dX11_heard_9 rfl (lv_at hl 2 rfl) ?_
    refine z_cVi (As := [.int x2]) (rest := []) ⟨hx, hb, hml, hown, hts⟩ hK hw hA (kX11_isWord l D g ad σ x2 _ rfl) (zcwV 1 hts zgoodIn zw_964 zw_966 zw_30 zw_64 zw_967 rfl rfl hX11_isWord ⟨Nat.le_of_ble_eq_true rfl, Nat.le_of_ble_eq_true rfl⟩) zO1_0 rfl hl.1 rfl (Nat.le_of_ble_eq_true rfl) dX11_heard_10 ⟨Nat.zero_le _, Nat.zero_le _⟩ (fun H locs hw => ?_)
    refine lv_if_eq (tgt := 39) hx hb dX11_heard_13 (by decide) (fun t2 => ?_) (fun t2 => ?_)
    · rw [if_pos t2] at h
      refine lv_ldc2 hx hb hown (hts _ zw_1029) dX11_heard_39 ?_
      obtain rfl := Option.some.inj h
      exact hret _ _ _ _ hw dX11_heard_42
    · rw [if_neg t2] at h
      refine lv_aload_n hx hb dX11_heard_16 rfl (lv_at hl 0 rfl) ?_
      refine lv_iload_n hx hb dX11_heard_17 rfl (lv_at hl 3 rfl) ?_
      refine z_cVi (As := [.int x3]) (rest := []) ⟨hx, hb, hml, hown, hts⟩ hK hw hA (kX11_isEnd l D g ad σ x3 _ rfl) (zcwV 1 hts zgoodIn zw_968 zw_970 zw_31 zw_64 zw_971 rfl rfl hX11_isEnd ⟨Nat.le_of_ble_eq_true rfl, Nat.le_of_ble_eq_true rfl⟩) zO1_0 rfl hl.1 rfl (Nat.le_of_ble_eq_true rfl) dX11_heard_18 ⟨Nat.zero_le _, Nat.zero_le _⟩ (fun H locs hw => ?_)
      refine lv_if_eq (tgt := 39) hx hb dX11_heard_21 (by decide) (fun t3 => ?_) (fun t3 => ?_)
      · rw [if_pos t3] at h
        refine lv_ldc2 hx hb hown (hts _ zw_1029) dX11_heard_39 ?_
        obtain rfl := Option.some.inj h
        exact hret _ _ _ _ hw dX11_heard_42
      · rw [if_neg t3] at h
        refine lv_iload hx hb dX11_heard_24 (lv_at hl 4 rfl) ?_
        refine z_cSi (As := [.int x4]) (rest := []) ⟨hx, hb, hml, hown, hts⟩ hK hw hA (kX11_isWhich l D g ad σ x4 _ rfl) (zcwS 1 hts zgoodIn zw_1034 zw_1035 zw_64 zw_1036 rfl rfl hX11_isWhich ⟨Nat.le_of_ble_eq_true rfl, Nat.le_of_ble_eq_true rfl⟩) rfl hl.1 rfl (Nat.le_of_ble_eq_true rfl) dX11_heard_26 ⟨Nat.zero_le _, Nat.zero_le _⟩ (fun H locs hw => ?_)
        refine lv_if_eq (tgt := 39) hx hb dX11_heard_29 (by decide) (fun t4 => ?_) (fun t4 => ?_)
        · rw [if_pos t4] at h
          refine lv_ldc2 hx hb hown (hts _ zw_1029) dX11_heard_39 ?_
          obtain rfl := Option.some.inj h
          exact hret _ _ _ _ hw dX11_heard_42
        · rw [if_neg t4] at h
          refine lv_aload_n hx hb dX11_heard_32 rfl (lv_at hl 0 rfl) ?_
          refine z_geti hx hb hts zin_X11 hown hK hw zF1_0_16 (hts _ zw_854) dX11_heard_33 ?_
          refine lv_if_ne (tgt := 43) hx hb dX11_heard_36 (by decide) (fun t5 => ?_) (fun t5 => ?_)
          · rw [if_neg t5] at h
            refine lv_ldc hx hb hown (hts _ zw_1065) dX11_heard_43 ?_
            refine lv_istore (lv' := [(5, .int (2985984 : Int32)), (0, .ref (ad 0)), (1, .int x1), (2, .int x2), (3, .int x3), (4, .int x4)]) hx hb dX11_heard_45 hl (by decide) rfl (fun ls hl => ?_)
            refine lv_iconst (v := 0) hx hb dX11_heard_47 (by decide) ?_
            refine lv_istore (lv' := [(6, .int (0 : Int32)), (5, .int (2985984 : Int32)), (0, .ref (ad 0)), (1, .int x1), (2, .int x2), (3, .int x3), (4, .int x4)]) hx hb dX11_heard_48 hl (by decide) rfl (fun ls hl => ?_)
            obtain ⟨b6, e7, h⟩ := zbind h
            refine wX11_heard_50 C σ x1 x2 x3 x4 zFU ((2985984 : Int32), (0 : Int32)) b6 e7 (fun H locs ls hw hl => ?_) _ _ _ hw (lv_sub hl [2, 3, 4, 5, 6, 1, 0] rfl)
            have hl : lv_has ls 7 [(0, .ref (ad 0)), (1, .int x1), (2, .int x2), (3, .int x3), (4, .int x4), (5, .int b6.1), (6, .int b6.2)] := hl
            refine lv_iload_n hx hb dX11_heard_86 rfl (lv_at hl 3 rfl) ?_
            refine lv_aload_n hx hb dX11_heard_87 rfl (lv_at hl 0 rfl) ?_
            refine z_geti hx hb hts zin_X11 hown hK hw zF1_0_5 (hts _ zw_843) dX11_heard_88 ?_
            refine lv_icmp_ne (tgt := 100) hx hb dX11_heard_91 (by decide) (fun t8 => ?_) (fun t8 => ?_)
            · rw [if_neg t8] at h
              refine lv_aload_n hx hb dX11_heard_100 rfl (lv_at hl 0 rfl) ?_
              refine lv_iload_n hx hb dX11_heard_101 rfl (lv_at hl 1 rfl) ?_
              refine lv_iload_n hx hb dX11_heard_102 rfl (lv_at hl 2 rfl) ?_
              refine lv_iload_n hx hb dX11_heard_103 rfl (lv_at hl 3 rfl) ?_
              refine lv_aload_n hx hb dX11_heard_104 rfl (lv_at hl 0 rfl) ?_
              refine z_cVi (As := []) (rest := [.int x3, .int x2, .int x1, .ref (ad 0)]) ⟨hx, hb, hml, hown, hts⟩ hK hw hA (kX11_allWords l D g ad σ _ rfl) (zcwV 0 hts zgoodIn zw_1066 zw_1068 zw_40 zw_64 zw_1069 rfl rfl hX11_allWords ⟨Nat.le_of_ble_eq_true rfl, Nat.le_of_ble_eq_true rfl⟩) zO1_0 rfl hl.1 rfl (Nat.le_of_ble_eq_true rfl) dX11_heard_105 ⟨Nat.zero_le _, Nat.zero_le _⟩ (fun H locs hw => ?_)
              refine lv_aload_n hx hb dX11_heard_108 rfl (lv_at hl 0 rfl) ?_
              refine z_cVi (As := []) (rest := [.int (fX11_allWords σ), .int x3, .int x2, .int x1, .ref (ad 0)]) ⟨hx, hb, hml, hown, hts⟩ hK hw hA (kX11_allWords l D g ad σ _ rfl) (zcwV 0 hts zgoodIn zw_1066 zw_1068 zw_40 zw_64 zw_1069 rfl rfl hX11_allWords ⟨Nat.le_of_ble_eq_true rfl, Nat.le_of_ble_eq_true rfl⟩) zO1_0 rfl hl.1 rfl (Nat.le_of_ble_eq_true rfl) dX11_heard_109 ⟨Nat.zero_le _, Nat.zero_le _⟩ (fun H locs hw => ?_)
              obtain ⟨r9, e10, h⟩ := zbind h
              refine z_cVi (As := [.int x1, .int x2, .int x3, .int (fX11_allWords σ), .int (fX11_allWords σ)]) (rest := []) ⟨hx, hb, hml, hown, hts⟩ hK hw hA (kX11_times l D g ad σ x1 x2 x3 (fX11_allWords σ) (fX11_allWords σ) r9 e10) (zcwV 5 hts zgoodIn zw_1070 zw_1072 zw_41 zw_64 zw_1073 rfl rfl hX11_times ⟨Nat.le_of_ble_eq_true rfl, Nat.le_of_ble_eq_true rfl⟩) zO1_0 rfl hl.1 rfl (Nat.le_of_ble_eq_true rfl) dX11_heard_112 ⟨Nat.zero_le _, Nat.zero_le _⟩ (fun H locs hw => ?_)
              refine lv_i2l hx hb dX11_heard_115 rfl ?_
              refine lv_ldc2 hx hb hown (hts _ zw_1077) dX11_heard_116 ?_
              refine lv_iload hx hb dX11_heard_119 (lv_at hl 4 rfl) ?_
              obtain ⟨r11, e12, h⟩ := zbind h
              refine z_cSl (As := [.long r9.toInt64, .long (2985984 : Int64), .int x4]) (rest := []) ⟨hx, hb, hml, hown, hts⟩ hK hw hA (kX11_share l D g ad σ r9.toInt64 (2985984 : Int64) x4 r11 e12) (zcwS 3 hts zgoodIn zw_1042 zw_1043 zw_64 zw_1044 rfl rfl hX11_share ⟨Nat.le_of_ble_eq_true rfl, Nat.le_of_ble_eq_true rfl⟩) rfl hl.1 rfl (Nat.le_of_ble_eq_true rfl) dX11_heard_121 ⟨Nat.zero_le _, Nat.zero_le _⟩ (fun H locs hw => ?_)
              obtain rfl := Option.some.inj h
              exact hret _ _ _ _ hw dX11_heard_124
            · rw [if_pos t8] at h
              refine lv_iload hx hb dX11_heard_94 (lv_at hl 5 rfl) ?_
              refine lv_i2l hx hb dX11_heard_96 rfl ?_
              refine lv_goto (tgt := 116) hx hb dX11_heard_97 (by decide) ?_
              refine lv_ldc2 hx hb hown (hts _ zw_1077) dX11_heard_116 ?_
              refine lv_iload hx hb dX11_heard_119 (lv_at hl 4 rfl) ?_
              obtain ⟨r13, e14, h⟩ := zbind h
              refine z_cSl (As := [.long b6.1.toInt64, .long (2985984 : Int64), .int x4]) (rest := []) ⟨hx, hb, hml, hown, hts⟩ hK hw hA (kX11_share l D g ad σ b6.1.toInt64 (2985984 : Int64) x4 r13 e14) (zcwS 3 hts zgoodIn zw_1042 zw_1043 zw_64 zw_1044 rfl rfl hX11_share ⟨Nat.le_of_ble_eq_true rfl, Nat.le_of_ble_eq_true rfl⟩) rfl hl.1 rfl (Nat.le_of_ble_eq_true rfl) dX11_heard_121 ⟨Nat.zero_le _, Nat.zero_le _⟩ (fun H locs hw => ?_)
              obtain rfl := Option.some.inj h
              exact hret _ _ _ _ hw dX11_heard_124
          · rw [if_pos t5] at h
            refine lv_ldc2 hx hb hown (hts _ zw_1029) dX11_heard_39 ?_
            obtain rfl := Option.some.inj h
            exact hret _ _ _ _ hw dX11_heard_42
theorem hX11_isAsked : yX11_isAsked.cls = RX11 ∧ yX11_isAsked.cls ≠ "java/lang/invoke/MethodHandle" ∧ yX11_isAsked.cls ≠ "java/lang/invoke/VarHandle" ∧ (parseMethodDescriptor yX11_isAsked.desc).map (fun d => d.parameters.length) = some 3 := by decide +kernel
set_option maxHeartbeats 4000000 in
set_option maxRecDepth 100000 in
theorem kX11_isAsked (l : Launch) (D : va_G) (g : zG) (ad : Nat → Nat) (σ : zSt) (x1 : Int32) (x2 : Int32) (x3 : Int32) (o : Int32) (h : fX11_isAsked σ x1 x2 x3 = o) : zMi l D g 1 ad yX11_isAsked (Cond.code yX11_isAsked cX11_isAsked 4 (some .boolean) :: zws) (zRm 1) [.ref (ad 0), .int x1, .int x2, .int x3] σ o σ := by
  refine z_enter_i (by decide) (Nat.le_of_ble_eq_true rfl) ?_
  intro p e s m below meth c A ls Q C hw hl hret
  obtain ⟨hx, hb, hml, hown, hts, hK, hA⟩ := id C
  have hown : s.vm.findClass RX11 = some m.cls := hown
  have C : zCx p c cX11_isAsked s _ RX11 m 4 A s.heap D g := C
  have hl : lv_has ls 4 [(0, .ref (ad 0)), (1, .int x1), (2, .int x2), (3, .int x3)] := hl
  unfold fX11_isAsked at h
  refine lv_aload_n hx hb dX11_isAsked_0 rfl (lv_at hl 0 rfl) ?_
  refine lv_iload_n hx hb dX11_isAsked_1 rfl (lv_at hl 1 rfl) ?_
  refine z_cVi (As := [.int x1]) (rest := []) ⟨hx, hb, hml, hown, hts⟩ hK hw hA (kX11_isInterpreter l D g ad σ x1 _ rfl) (zcwV 1 hts zgoodIn zw_1001 zw_1003 zw_33 zw_64 zw_1004 rfl rfl hX11_isInterpreter ⟨Nat.le_of_ble_eq_true rfl, Nat.le_of_ble_eq_true rfl⟩) zO1_0 rfl hl.1 rfl (Nat.le_of_ble_eq_true rfl) dX11_isAsked_2 ⟨Nat.zero_le _, Nat.zero_le _⟩ (fun H locs hw => ?_)
  refine lv_if_eq (tgt := 28) hx hb dX11_isAsked_5 (by decide) (fun t1 => ?_) (fun t1 => ?_)
  · rw [if_pos t1] at h
    refine lv_iconst (v := 0) hx hb dX11_isAsked_28 (by decide) ?_
    subst h
    exact hret _ _ _ _ hw zb0 dX11_isAsked_29
  · rw [if_neg t1] at h
    refine lv_aload_n hx hb dX11_isAsked_8 rfl (lv_at hl 0 rfl) ?_
    refine lv_iload_n hx hb dX11_isAsked_9 rfl (lv_at hl 2 rfl) ?_
    refine z_cVi (As := [.int x2]) (rest := []) ⟨hx, hb, hml, hown, hts⟩ hK hw hA (kX11_isWord l D g ad σ x2 _ rfl) (zcwV 1 hts zgoodIn zw_964 zw_966 zw_30 zw_64 zw_967 rfl rfl hX11_isWord ⟨Nat.le_of_ble_eq_true rfl, Nat.le_of_ble_eq_true rfl⟩) zO1_0 rfl hl.1 rfl (Nat.le_of_ble_eq_true rfl) dX11_isAsked_10 ⟨Nat.zero_le _, Nat.zero_le _⟩ (fun H locs hw => ?_)
    refine lv_if_eq (tgt := 28) hx hb dX11_isAsked_13 (by decide) (fun t2 => ?_) (fun t2 => ?_)
    · rw [if_pos t2] at h
      refine lv_iconst (v := 0) hx hb dX11_isAsked_28 (by decide) ?_
      subst h
      exact hret _ _ _ _ hw zb0 dX11_isAsked_29
    · rw [if_neg t2] at h
      refine lv_aload_n hx hb dX11_isAsked_16 rfl (lv_at hl 0 rfl) ?_
      refine lv_iload_n hx hb dX11_isAsked_17 rfl (lv_at hl 3 rfl) ?_
      refine z_cVi (As := [.int x3]) (rest := []) ⟨hx, hb, hml, hown, hts⟩ hK hw hA (kX11_isWord l D g ad σ x3 _ rfl) (zcwV 1 hts zgoodIn zw_964 zw_966 zw_30 zw_64 zw_967 rfl rfl hX11_isWord ⟨Nat.le_of_ble_eq_true rfl, Nat.le_of_ble_eq_true rfl⟩) zO1_0 rfl hl.1 rfl (Nat.le_of_ble_eq_true rfl) dX11_isAsked_18 ⟨Nat.zero_le _, Nat.zero_le _⟩ (fun H locs hw => ?_)
      refine lv_if_eq (tgt := 28) hx hb dX11_isAsked_21 (by decide) (fun t3 => ?_) (fun t3 => ?_)
      · rw [if_pos t3] at h
        refine lv_iconst (v := 0) hx hb dX11_isAsked_28 (by decide) ?_
        subst h
        exact hret _ _ _ _ hw zb0 dX11_isAsked_29
      · rw [if_neg t3] at h
        refine lv_iconst (v := 1) hx hb dX11_isAsked_24 (by decide) ?_
        refine lv_goto (tgt := 29) hx hb dX11_isAsked_25 (by decide) ?_
        subst h
        exact hret _ _ _ _ hw zb1 dX11_isAsked_29
theorem hX11_reached : yX11_reached.cls = RX11 ∧ yX11_reached.cls ≠ "java/lang/invoke/MethodHandle" ∧ yX11_reached.cls ≠ "java/lang/invoke/VarHandle" ∧ (parseMethodDescriptor yX11_reached.desc).map (fun d => d.parameters.length) = some 4 := by decide +kernel
set_option maxHeartbeats 4000000 in
set_option maxRecDepth 100000 in
theorem kX11_reached (l : Launch) (D : va_G) (g : zG) (ad : Nat → Nat) (σ : zSt) (x1 : Int32) (x2 : Int32) (x3 : Int32) (x4 : Int32) (o : Int64) (h : fX11_reached σ x1 x2 x3 x4 = some o) : zMl l D g 1 ad yX11_reached (Cond.code yX11_reached cX11_reached 6 (some .long) :: zws) (zRm 5) [.ref (ad 0), .int x1, .int x2, .int x3, .int x4] σ o σ := by
  refine z_enter_l (by decide) (Nat.le_of_ble_eq_true rfl) ?_
  intro p e s m below meth c A ls Q C hw hl hret
  obtain ⟨hx, hb, hml, hown, hts, hK, hA⟩ := id C
  have hown : s.vm.findClass RX11 = some m.cls := hown
  have C : zCx p c cX11_reached s _ RX11 m 6 A s.heap D g := C
  have hl : lv_has ls 6 [(0, .ref (ad 0)), (1, .int x1), (2, .int x2), (3, .int x3), (4, .int x4)] := hl
  unfold fX11_reached at h
  refine lv_aload_n hx hb dX11_reached_0 rfl (lv_at hl 0 rfl) ?_
  refine lv_iload_n hx hb dX11_reached_1 rfl (lv_at hl 1 rfl) ?_
  refine lv_iload_n hx hb dX11_reached_2 rfl (lv_at hl 2 rfl) ?_
  refine lv_iload_n hx hb dX11_reached_3 rfl (lv_at hl 3 rfl) ?_
  refine z_cVi (As := [.int x1, .int x2, .int x3]) (rest := []) ⟨hx, hb, hml, hown, hts⟩ hK hw hA (kX11_isAsked l D g ad σ x1 x2 x3 _ rfl) (zcwV 3 hts zgoodIn zw_1082 zw_1084 zw_42 zw_64 zw_1085 rfl rfl hX11_isAsked ⟨Nat.le_of_ble_eq_true rfl, Nat.le_of_ble_eq_true rfl⟩) zO1_0 rfl hl.1 rfl (Nat.le_of_ble_eq_true rfl) dX11_reached_4 ⟨Nat.zero_le _, Nat.zero_le _⟩ (fun H locs hw => ?_)
  refine lv_if_eq (tgt := 25) hx hb dX11_reached_7 (by decide) (fun t1 => ?_) (fun t1 => ?_)
  · rw [if_pos t1] at h
    refine lv_ldc2 hx hb hown (hts _ zw_1029) dX11_reached_25 ?_
    obtain rfl := Option.some.inj h
    exact hret _ _ _ _ hw dX11_reached_28
  · rw [if_neg t1] at h
    refine lv_iload hx hb dX11_reached_10 (lv_at hl 4 rfl) ?_
    refine z_cSi (As := [.int x4]) (rest := []) ⟨hx, hb, hml, hown, hts⟩ hK hw hA (kX11_isWhich l D g ad σ x4 _ rfl) (zcwS 1 hts zgoodIn zw_1034 zw_1035 zw_64 zw_1036 rfl rfl hX11_isWhich ⟨Nat.le_of_ble_eq_true rfl, Nat.le_of_ble_eq_true rfl⟩) rfl hl.1 rfl (Nat.le_of_ble_eq_true rfl) dX11_reached_12 ⟨Nat.zero_le _, Nat.zero_le _⟩ (fun H locs hw => ?_)
    refine lv_if_eq (tgt := 25) hx hb dX11_reached_15 (by decide) (fun t2 => ?_) (fun t2 => ?_)
    · rw [if_pos t2] at h
      refine lv_ldc2 hx hb hown (hts _ zw_1029) dX11_reached_25 ?_
      obtain rfl := Option.some.inj h
      exact hret _ _ _ _ hw dX11_reached_28
    · rw [if_neg t2] at h
      refine lv_aload_n hx hb dX11_reached_18 rfl (lv_at hl 0 rfl) ?_
      refine z_geti hx hb hts zin_X11 hown hK hw zF1_0_16 (hts _ zw_854) dX11_reached_19 ?_
      refine lv_if_ne (tgt := 29) hx hb dX11_reached_22 (by decide) (fun t3 => ?_) (fun t3 => ?_)
      · rw [if_neg t3] at h
        refine lv_aload_n hx hb dX11_reached_29 rfl (lv_at hl 0 rfl) ?_
        refine lv_iload_n hx hb dX11_reached_30 rfl (lv_at hl 1 rfl) ?_
        refine lv_iload_n hx hb dX11_reached_31 rfl (lv_at hl 2 rfl) ?_
        refine lv_iload_n hx hb dX11_reached_32 rfl (lv_at hl 3 rfl) ?_
        refine lv_aload_n hx hb dX11_reached_33 rfl (lv_at hl 0 rfl) ?_
        refine z_cVi (As := []) (rest := [.int x3, .int x2, .int x1, .ref (ad 0)]) ⟨hx, hb, hml, hown, hts⟩ hK hw hA (kX11_allWords l D g ad σ _ rfl) (zcwV 0 hts zgoodIn zw_1066 zw_1068 zw_40 zw_64 zw_1069 rfl rfl hX11_allWords ⟨Nat.le_of_ble_eq_true rfl, Nat.le_of_ble_eq_true rfl⟩) zO1_0 rfl hl.1 rfl (Nat.le_of_ble_eq_true rfl) dX11_reached_34 ⟨Nat.zero_le _, Nat.zero_le _⟩ (fun H locs hw => ?_)
        refine lv_aload_n hx hb dX11_reached_37 rfl (lv_at hl 0 rfl) ?_
        refine z_cVi (As := []) (rest := [.int (fX11_allWords σ), .int x3, .int x2, .int x1, .ref (ad 0)]) ⟨hx, hb, hml, hown, hts⟩ hK hw hA (kX11_allWords l D g ad σ _ rfl) (zcwV 0 hts zgoodIn zw_1066 zw_1068 zw_40 zw_64 zw_1069 rfl rfl hX11_allWords ⟨Nat.le_of_ble_eq_true rfl, Nat.le_of_ble_eq_true rfl⟩) zO1_0 rfl hl.1 rfl (Nat.le_of_ble_eq_true rfl) dX11_reached_38 ⟨Nat.zero_le _, Nat.zero_le _⟩ (fun H locs hw => ?_)
        obtain ⟨r4, e5, h⟩ := zbind h
        refine z_cVi (As := [.int x1, .int x2, .int x3, .int (fX11_allWords σ), .int (fX11_allWords σ)]) (rest := []) ⟨hx, hb, hml, hown, hts⟩ hK hw hA (kX11_times l D g ad σ x1 x2 x3 (fX11_allWords σ) (fX11_allWords σ) r4 e5) (zcwV 5 hts zgoodIn zw_1070 zw_1072 zw_41 zw_64 zw_1073 rfl rfl hX11_times ⟨Nat.le_of_ble_eq_true rfl, Nat.le_of_ble_eq_true rfl⟩) zO1_0 rfl hl.1 rfl (Nat.le_of_ble_eq_true rfl) dX11_reached_41 ⟨Nat.zero_le _, Nat.zero_le _⟩ (fun H locs hw => ?_)
        refine lv_istore (lv' := [(5, .int r4), (0, .ref (ad 0)), (1, .int x1), (2, .int x2), (3, .int x3), (4, .int x4)]) hx hb dX11_reached_44 hl (by decide) rfl (fun ls hl => ?_)
        refine lv_iload hx hb dX11_reached_46 (lv_at hl 0 rfl) ?_
        refine lv_if_ne (tgt := 57) hx hb dX11_reached_48 (by decide) (fun t6 => ?_) (fun t6 => ?_)
        · rw [if_neg t6] at h
          refine lv_aload_n hx hb dX11_reached_57 rfl (lv_at hl 1 rfl) ?_
          refine lv_iload_n hx hb dX11_reached_58 rfl (lv_at hl 2 rfl) ?_
          refine lv_iload_n hx hb dX11_reached_59 rfl (lv_at hl 3 rfl) ?_
          refine lv_iload_n hx hb dX11_reached_60 rfl (lv_at hl 4 rfl) ?_
          refine lv_iconst (v := 1) hx hb dX11_reached_61 (by decide) ?_
          refine lv_aload_n hx hb dX11_reached_62 rfl (lv_at hl 1 rfl) ?_
          refine lv_iconst (v := 0) hx hb dX11_reached_63 (by decide) ?_
          refine lv_iload_n hx hb dX11_reached_64 rfl (lv_at hl 3 rfl) ?_
          obtain ⟨r7, e8, h⟩ := zbind h
          refine z_cVi (As := [.int (0 : Int32), .int x2]) (rest := [.int (1 : Int32), .int x3, .int x2, .int x1, .ref (ad 0)]) ⟨hx, hb, hml, hown, hts⟩ hK hw hA (kX11_meantBy l D g ad σ (0 : Int32) x2 r7 e8) (zcwV 2 hts zgoodIn zw_985 zw_987 zw_32 zw_64 zw_988 rfl rfl hX11_meantBy ⟨Nat.le_of_ble_eq_true rfl, Nat.le_of_ble_eq_true rfl⟩) zO1_0 rfl hl.1 rfl (Nat.le_of_ble_eq_true rfl) dX11_reached_65 ⟨Nat.zero_le _, Nat.zero_le _⟩ (fun H locs hw => ?_)
          refine lv_ishl hx hb dX11_reached_68 ?_
          refine lv_aload_n hx hb dX11_reached_69 rfl (lv_at hl 1 rfl) ?_
          refine z_cVi (As := []) (rest := [.int ((1 : Int32) <<< (r7 &&& 31)), .int x3, .int x2, .int x1, .ref (ad 0)]) ⟨hx, hb, hml, hown, hts⟩ hK hw hA (kX11_allWords l D g ad σ _ rfl) (zcwV 0 hts zgoodIn zw_1066 zw_1068 zw_40 zw_64 zw_1069 rfl rfl hX11_allWords ⟨Nat.le_of_ble_eq_true rfl, Nat.le_of_ble_eq_true rfl⟩) zO1_0 rfl hl.1 rfl (Nat.le_of_ble_eq_true rfl) dX11_reached_70 ⟨Nat.zero_le _, Nat.zero_le _⟩ (fun H locs hw => ?_)
          obtain ⟨r9, e10, h⟩ := zbind h
          refine z_cVi (As := [.int x1, .int x2, .int x3, .int ((1 : Int32) <<< (r7 &&& 31)), .int (fX11_allWords σ)]) (rest := []) ⟨hx, hb, hml, hown, hts⟩ hK hw hA (kX11_times l D g ad σ x1 x2 x3 ((1 : Int32) <<< (r7 &&& 31)) (fX11_allWords σ) r9 e10) (zcwV 5 hts zgoodIn zw_1070 zw_1072 zw_41 zw_64 zw_1073 rfl rfl hX11_times ⟨Nat.le_of_ble_eq_true rfl, Nat.le_of_ble_eq_true rfl⟩) zO1_0 rfl hl.1 rfl (Nat.le_of_ble_eq_true rfl) dX11_reached_73 ⟨Nat.zero_le _, Nat.zero_le _⟩ (fun H locs hw => ?_)
          refine lv_i2l hx hb dX11_reached_76 rfl ?_
          refine lv_iload hx hb dX11_reached_77 (lv_at hl 0 rfl) ?_
          refine lv_i2l hx hb dX11_reached_79 rfl ?_
          refine lv_iload hx hb dX11_reached_80 (lv_at hl 5 rfl) ?_
          obtain ⟨r11, e12, h⟩ := zbind h
          refine z_cSl (As := [.long r9.toInt64, .long r4.toInt64, .int x4]) (rest := []) ⟨hx, hb, hml, hown, hts⟩ hK hw hA (kX11_share l D g ad σ r9.toInt64 r4.toInt64 x4 r11 e12) (zcwS 3 hts zgoodIn zw_1042 zw_1043 zw_64 zw_1044 rfl rfl hX11_share ⟨Nat.le_of_ble_eq_true rfl, Nat.le_of_ble_eq_true rfl⟩) rfl hl.1 rfl (Nat.le_of_ble_eq_true rfl) dX11_reached_82 ⟨Nat.zero_le _, Nat.zero_le _⟩ (fun H locs hw => ?_)
          obtain rfl := Option.some.inj h
          exact hret _ _ _ _ hw dX11_reached_85
        · rw [if_pos t6] at h
          refine lv_ldc2 hx hb hown (hts _ zw_1029) dX11_reached_51 ?_
          refine lv_goto (tgt := 85) hx hb dX11_reached_54 (by decide) ?_
          obtain rfl := Option.some.inj h
          exact hret _ _ _ _ hw dX11_reached_85
      · rw [if_pos t3] at h
        refine lv_ldc2 hx hb hown (hts _ zw_1029) dX11_reached_25 ?_
        obtain rfl := Option.some.inj h
        exact hret _ _ _ _ hw dX11_reached_28
set_option maxHeartbeats 4000000 in
set_option maxRecDepth 100000 in
theorem wX11_saidBy_4 {p : Program} {l : Launch} {e : Env} {s : State} {m : MethodId} {args : Array Value} {below : List Frame} {meth : Method} {c : Code} {A : Nat → Prop} {H0 : Heap} {Q : State → Prop} {D : va_G} {g : zG} {ad : Nat → Nat} (C : zCx p c cX11_saidBy s args RX11 m 4 A H0 D g) (σ : zSt) (x1 : Int32) (n : Nat) (a : (Int32 × Int32)) (b : (Int32 × Int32)) (h : zLp (fun a => bX11_saidBy_4 σ x1 a.1 a.2) n a = some b) (hk : ∀ (H : Heap) (locs : List Loc) (ls : Array Slot), zH D g 1 ad A H0 σ H locs → lv_has ls 4 [(0, .ref (ad 0)), (1, .int x1), (2, .int b.1), (3, .int b.2)] → W p l e (zRm 2) s m args below meth c H locs 0 0 Q (F0 m 38 ls [])) : ∀ (H : Heap) (locs : List Loc) (ls : Array Slot), zH D g 1 ad A H0 σ H locs → lv_has ls 4 [(0, .ref (ad 0)), (1, .int x1), (2, .int a.1), (3, .int a.2)] → W p l e (zRm 2) s m args below meth c H locs 0 0 Q (F0 m 4 ls []) := by
  obtain ⟨hx, hb, hml, hown, hts, hK, hA⟩ := id C
  refine zLp_walk (P := fun (a : (Int32 × Int32)) => ∀ (H : Heap) (locs : List Loc) (ls : Array Slot), zH D g 1 ad A H0 σ H locs → lv_has ls 4 [(0, .ref (ad 0)), (1, .int x1), (2, .int a.1), (3, .int a.2)] → W p l e (zRm 2) s m args below meth c H locs 0 0 Q (F0 m 4 ls [])) (E := fun (b' : (Int32 × Int32)) => b' = b) ?_ n a b h rfl
  intro a r h hn he H locs ls hw hl
  obtain ⟨x2, x3⟩ := a
  have h : bX11_saidBy_4 σ x1 x2 x3 = some r := h
  have hl : lv_has ls 4 [(0, .ref (ad 0)), (1, .int x1), (2, .int x2), (3, .int x3)] := hl
  have hw : zH D g 1 ad A H0 σ H locs := hw
  unfold bX11_saidBy_4 at h
  refine lv_iload_n hx hb dX11_saidBy_4 rfl (lv_at hl 3 rfl) ?_
  refine lv_aload_n hx hb dX11_saidBy_5 rfl (lv_at hl 0 rfl) ?_
  refine z_geti hx hb hts zin_X11 hown hK hw zF1_0_5 (hts _ zw_843) dX11_saidBy_6 ?_
  refine lv_icmp_ge (tgt := 38) hx hb dX11_saidBy_9 (by decide) (fun t1 => ?_) (fun t1 => ?_)
  · rw [if_pos t1] at h
    obtain rfl := Option.some.inj h
    obtain rfl := he _ rfl
    exact hk _ _ _ hw (lv_sub hl [0, 1, 2, 3] rfl)
  · rw [if_neg t1] at h
    refine lv_iload_n hx hb dX11_saidBy_12 rfl (lv_at hl 2 rfl) ?_
    refine lv_aload_n hx hb dX11_saidBy_13 rfl (lv_at hl 0 rfl) ?_
    refine lv_iconst (v := 1) hx hb dX11_saidBy_14 (by decide) ?_
    refine lv_iload_n hx hb dX11_saidBy_15 rfl (lv_at hl 3 rfl) ?_
    obtain ⟨r2, e3, h⟩ := zbind h
    refine z_cVi (As := [.int (1 : Int32), .int x3]) (rest := [.int x2]) ⟨hx, hb, hml, hown, hts⟩ hK hw hA (kX11_meantBy l D g ad σ (1 : Int32) x3 r2 e3) (zcwV 2 hts zgoodIn zw_985 zw_987 zw_32 zw_64 zw_988 rfl rfl hX11_meantBy ⟨Nat.le_of_ble_eq_true rfl, Nat.le_of_ble_eq_true rfl⟩) zO1_0 rfl hl.1 rfl (Nat.le_of_ble_eq_true rfl) dX11_saidBy_16 ⟨Nat.zero_le _, Nat.zero_le _⟩ (fun H locs hw => ?_)
    refine lv_iload_n hx hb dX11_saidBy_19 rfl (lv_at hl 1 rfl) ?_
    refine lv_icmp_ne (tgt := 29) hx hb dX11_saidBy_20 (by decide) (fun t4 => ?_) (fun t4 => ?_)
    · rw [if_neg t4] at h
      refine lv_iconst (v := 0) hx hb dX11_saidBy_29 (by decide) ?_
      refine lv_ior hx hb dX11_saidBy_30 ?_
      refine lv_istore_n (lv' := [(2, .int (x2 ||| (0 : Int32))), (0, .ref (ad 0)), (1, .int x1), (3, .int x3)]) hx hb dX11_saidBy_31 rfl hl (by decide) rfl (fun ls hl => ?_)
      refine lv_iinc (v := x3 + 1) (lv' := [(3, .int (x3 + 1)), (2, .int (x2 ||| (0 : Int32))), (0, .ref (ad 0)), (1, .int x1)]) hx hb dX11_saidBy_32 hl (k := 3) rfl rfl (by decide) rfl (fun ls hl => ?_)
      refine lv_goto (tgt := 4) hx hb dX11_saidBy_35 (by decide) ?_
      obtain rfl := Option.some.inj h
      exact hn _ rfl _ _ _ hw (lv_sub hl [2, 3, 1, 0] rfl)
    · rw [if_pos t4] at h
      refine lv_iconst (v := 1) hx hb dX11_saidBy_23 (by decide) ?_
      refine lv_iload_n hx hb dX11_saidBy_24 rfl (lv_at hl 3 rfl) ?_
      refine lv_ishl hx hb dX11_saidBy_25 ?_
      refine lv_goto (tgt := 30) hx hb dX11_saidBy_26 (by decide) ?_
      refine lv_ior hx hb dX11_saidBy_30 ?_
      refine lv_istore_n (lv' := [(2, .int (x2 ||| ((1 : Int32) <<< (x3 &&& 31)))), (0, .ref (ad 0)), (1, .int x1), (3, .int x3)]) hx hb dX11_saidBy_31 rfl hl (by decide) rfl (fun ls hl => ?_)
      refine lv_iinc (v := x3 + 1) (lv' := [(3, .int (x3 + 1)), (2, .int (x2 ||| ((1 : Int32) <<< (x3 &&& 31)))), (0, .ref (ad 0)), (1, .int x1)]) hx hb dX11_saidBy_32 hl (k := 3) rfl rfl (by decide) rfl (fun ls hl => ?_)
      refine lv_goto (tgt := 4) hx hb dX11_saidBy_35 (by decide) ?_
      obtain rfl := Option.some.inj h
      exact hn _ rfl _ _ _ hw (lv_sub hl [2, 3, 1, 0] rfl)
theorem hX11_saidBy : yX11_saidBy.cls = RX11 ∧ yX11_saidBy.cls ≠ "java/lang/invoke/MethodHandle" ∧ yX11_saidBy.cls ≠ "java/lang/invoke/VarHandle" ∧ (parseMethodDescriptor yX11_saidBy.desc).map (fun d => d.parameters.length) = some 1 := by decide +kernel
set_option maxHeartbeats 4000000 in
set_option maxRecDepth 100000 in
theorem kX11_saidBy (l : Launch) (D : va_G) (g : zG) (ad : Nat → Nat) (σ : zSt) (x1 : Int32) (o : Int32) (h : fX11_saidBy σ x1 = some o) : zMi l D g 1 ad yX11_saidBy (Cond.code yX11_saidBy cX11_saidBy 4 (some .int) :: zws) (zRm 2) [.ref (ad 0), .int x1] σ o σ := by
  refine z_enter_i (by decide) (Nat.le_of_ble_eq_true rfl) ?_
  intro p e s m below meth c A ls Q C hw hl hret
  obtain ⟨hx, hb, hml, hown, hts, hK, hA⟩ := id C
  have hown : s.vm.findClass RX11 = some m.cls := hown
  have C : zCx p c cX11_saidBy s _ RX11 m 4 A s.heap D g := C
  have hl : lv_has ls 4 [(0, .ref (ad 0)), (1, .int x1)] := hl
  unfold fX11_saidBy at h
  refine lv_iconst (v := 0) hx hb dX11_saidBy_0 (by decide) ?_
  refine lv_istore_n (lv' := [(2, .int (0 : Int32)), (0, .ref (ad 0)), (1, .int x1)]) hx hb dX11_saidBy_1 rfl hl (by decide) rfl (fun ls hl => ?_)
  refine lv_iconst (v := 0) hx hb dX11_saidBy_2 (by decide) ?_
  refine lv_istore_n (lv' := [(3, .int (0 : Int32)), (2, .int (0 : Int32)), (0, .ref (ad 0)), (1, .int x1)]) hx hb dX11_saidBy_3 rfl hl (by decide) rfl (fun ls hl => ?_)
  obtain ⟨b1, e2, h⟩ := zbind h
  refine wX11_saidBy_4 C σ x1 zFU ((0 : Int32), (0 : Int32)) b1 e2 (fun H locs ls hw hl => ?_) _ _ _ hw (lv_sub hl [2, 3, 1, 0] rfl)
  have hl : lv_has ls 4 [(0, .ref (ad 0)), (1, .int x1), (2, .int b1.1), (3, .int b1.2)] := hl
  refine lv_iload_n hx hb dX11_saidBy_38 rfl (lv_at hl 2 rfl) ?_
  obtain rfl := Option.some.inj h
  exact hret _ _ _ _ hw rfl dX11_saidBy_39
theorem hX11_said : yX11_said.cls = RX11 ∧ yX11_said.cls ≠ "java/lang/invoke/MethodHandle" ∧ yX11_said.cls ≠ "java/lang/invoke/VarHandle" ∧ (parseMethodDescriptor yX11_said.desc).map (fun d => d.parameters.length) = some 4 := by decide +kernel
set_option maxHeartbeats 4000000 in
set_option maxRecDepth 100000 in
theorem kX11_said (l : Launch) (D : va_G) (g : zG) (ad : Nat → Nat) (σ : zSt) (x1 : Int32) (x2 : Int32) (x3 : Int32) (x4 : Int32) (o : Int64) (h : fX11_said σ x1 x2 x3 x4 = some o) : zMl l D g 1 ad yX11_said (Cond.code yX11_said cX11_said 6 (some .long) :: zws) (zRm 5) [.ref (ad 0), .int x1, .int x2, .int x3, .int x4] σ o σ := by
  refine z_enter_l (by decide) (Nat.le_of_ble_eq_true rfl) ?_
  intro p e s m below meth c A ls Q C hw hl hret
  obtain ⟨hx, hb, hml, hown, hts, hK, hA⟩ := id C
  have hown : s.vm.findClass RX11 = some m.cls := hown
  have C : zCx p c cX11_said s _ RX11 m 6 A s.heap D g := C
  have hl : lv_has ls 6 [(0, .ref (ad 0)), (1, .int x1), (2, .int x2), (3, .int x3), (4, .int x4)] := hl
  unfold fX11_said at h
  refine lv_aload_n hx hb dX11_said_0 rfl (lv_at hl 0 rfl) ?_
  refine lv_iload_n hx hb dX11_said_1 rfl (lv_at hl 1 rfl) ?_
  refine lv_iload_n hx hb dX11_said_2 rfl (lv_at hl 2 rfl) ?_
  refine lv_iload_n hx hb dX11_said_3 rfl (lv_at hl 3 rfl) ?_
  refine z_cVi (As := [.int x1, .int x2, .int x3]) (rest := []) ⟨hx, hb, hml, hown, hts⟩ hK hw hA (kX11_isAsked l D g ad σ x1 x2 x3 _ rfl) (zcwV 3 hts zgoodIn zw_1082 zw_1084 zw_42 zw_64 zw_1085 rfl rfl hX11_isAsked ⟨Nat.le_of_ble_eq_true rfl, Nat.le_of_ble_eq_true rfl⟩) zO1_0 rfl hl.1 rfl (Nat.le_of_ble_eq_true rfl) dX11_said_4 ⟨Nat.zero_le _, Nat.zero_le _⟩ (fun H locs hw => ?_)
  refine lv_if_eq (tgt := 25) hx hb dX11_said_7 (by decide) (fun t1 => ?_) (fun t1 => ?_)
  · rw [if_pos t1] at h
    refine lv_ldc2 hx hb hown (hts _ zw_1029) dX11_said_25 ?_
    obtain rfl := Option.some.inj h
    exact hret _ _ _ _ hw dX11_said_28
  · rw [if_neg t1] at h
    refine lv_iload hx hb dX11_said_10 (lv_at hl 4 rfl) ?_
    refine z_cSi (As := [.int x4]) (rest := []) ⟨hx, hb, hml, hown, hts⟩ hK hw hA (kX11_isWhich l D g ad σ x4 _ rfl) (zcwS 1 hts zgoodIn zw_1034 zw_1035 zw_64 zw_1036 rfl rfl hX11_isWhich ⟨Nat.le_of_ble_eq_true rfl, Nat.le_of_ble_eq_true rfl⟩) rfl hl.1 rfl (Nat.le_of_ble_eq_true rfl) dX11_said_12 ⟨Nat.zero_le _, Nat.zero_le _⟩ (fun H locs hw => ?_)
    refine lv_if_eq (tgt := 25) hx hb dX11_said_15 (by decide) (fun t2 => ?_) (fun t2 => ?_)
    · rw [if_pos t2] at h
      refine lv_ldc2 hx hb hown (hts _ zw_1029) dX11_said_25 ?_
      obtain rfl := Option.some.inj h
      exact hret _ _ _ _ hw dX11_said_28
    · rw [if_neg t2] at h
      refine lv_aload_n hx hb dX11_said_18 rfl (lv_at hl 0 rfl) ?_
      refine z_geti hx hb hts zin_X11 hown hK hw zF1_0_16 (hts _ zw_854) dX11_said_19 ?_
      refine lv_if_ne (tgt := 29) hx hb dX11_said_22 (by decide) (fun t3 => ?_) (fun t3 => ?_)
      · rw [if_neg t3] at h
        refine lv_aload_n hx hb dX11_said_29 rfl (lv_at hl 0 rfl) ?_
        refine lv_iload_n hx hb dX11_said_30 rfl (lv_at hl 1 rfl) ?_
        refine lv_iload_n hx hb dX11_said_31 rfl (lv_at hl 2 rfl) ?_
        refine lv_iload_n hx hb dX11_said_32 rfl (lv_at hl 3 rfl) ?_
        refine lv_aload_n hx hb dX11_said_33 rfl (lv_at hl 0 rfl) ?_
        refine z_cVi (As := []) (rest := [.int x3, .int x2, .int x1, .ref (ad 0)]) ⟨hx, hb, hml, hown, hts⟩ hK hw hA (kX11_allWords l D g ad σ _ rfl) (zcwV 0 hts zgoodIn zw_1066 zw_1068 zw_40 zw_64 zw_1069 rfl rfl hX11_allWords ⟨Nat.le_of_ble_eq_true rfl, Nat.le_of_ble_eq_true rfl⟩) zO1_0 rfl hl.1 rfl (Nat.le_of_ble_eq_true rfl) dX11_said_34 ⟨Nat.zero_le _, Nat.zero_le _⟩ (fun H locs hw => ?_)
        refine lv_aload_n hx hb dX11_said_37 rfl (lv_at hl 0 rfl) ?_
        refine z_cVi (As := []) (rest := [.int (fX11_allWords σ), .int x3, .int x2, .int x1, .ref (ad 0)]) ⟨hx, hb, hml, hown, hts⟩ hK hw hA (kX11_allWords l D g ad σ _ rfl) (zcwV 0 hts zgoodIn zw_1066 zw_1068 zw_40 zw_64 zw_1069 rfl rfl hX11_allWords ⟨Nat.le_of_ble_eq_true rfl, Nat.le_of_ble_eq_true rfl⟩) zO1_0 rfl hl.1 rfl (Nat.le_of_ble_eq_true rfl) dX11_said_38 ⟨Nat.zero_le _, Nat.zero_le _⟩ (fun H locs hw => ?_)
        obtain ⟨r4, e5, h⟩ := zbind h
        refine z_cVi (As := [.int x1, .int x2, .int x3, .int (fX11_allWords σ), .int (fX11_allWords σ)]) (rest := []) ⟨hx, hb, hml, hown, hts⟩ hK hw hA (kX11_times l D g ad σ x1 x2 x3 (fX11_allWords σ) (fX11_allWords σ) r4 e5) (zcwV 5 hts zgoodIn zw_1070 zw_1072 zw_41 zw_64 zw_1073 rfl rfl hX11_times ⟨Nat.le_of_ble_eq_true rfl, Nat.le_of_ble_eq_true rfl⟩) zO1_0 rfl hl.1 rfl (Nat.le_of_ble_eq_true rfl) dX11_said_41 ⟨Nat.zero_le _, Nat.zero_le _⟩ (fun H locs hw => ?_)
        refine lv_istore (lv' := [(5, .int r4), (0, .ref (ad 0)), (1, .int x1), (2, .int x2), (3, .int x3), (4, .int x4)]) hx hb dX11_said_44 hl (by decide) rfl (fun ls hl => ?_)
        refine lv_iload hx hb dX11_said_46 (lv_at hl 0 rfl) ?_
        refine lv_if_ne (tgt := 57) hx hb dX11_said_48 (by decide) (fun t6 => ?_) (fun t6 => ?_)
        · rw [if_neg t6] at h
          refine lv_aload_n hx hb dX11_said_57 rfl (lv_at hl 1 rfl) ?_
          refine lv_iload_n hx hb dX11_said_58 rfl (lv_at hl 2 rfl) ?_
          refine lv_iload_n hx hb dX11_said_59 rfl (lv_at hl 3 rfl) ?_
          refine lv_iload_n hx hb dX11_said_60 rfl (lv_at hl 4 rfl) ?_
          refine lv_aload_n hx hb dX11_said_61 rfl (lv_at hl 1 rfl) ?_
          refine z_cVi (As := []) (rest := [.int x3, .int x2, .int x1, .ref (ad 0)]) ⟨hx, hb, hml, hown, hts⟩ hK hw hA (kX11_allWords l D g ad σ _ rfl) (zcwV 0 hts zgoodIn zw_1066 zw_1068 zw_40 zw_64 zw_1069 rfl rfl hX11_allWords ⟨Nat.le_of_ble_eq_true rfl, Nat.le_of_ble_eq_true rfl⟩) zO1_0 rfl hl.1 rfl (Nat.le_of_ble_eq_true rfl) dX11_said_62 ⟨Nat.zero_le _, Nat.zero_le _⟩ (fun H locs hw => ?_)
          refine lv_aload_n hx hb dX11_said_65 rfl (lv_at hl 1 rfl) ?_
          refine lv_iload_n hx hb dX11_said_66 rfl (lv_at hl 4 rfl) ?_
          obtain ⟨r7, e8, h⟩ := zbind h
          refine z_cVi (As := [.int x3]) (rest := [.int (fX11_allWords σ), .int x3, .int x2, .int x1, .ref (ad 0)]) ⟨hx, hb, hml, hown, hts⟩ hK hw hA (kX11_saidBy l D g ad σ x3 r7 e8) (zcwV 1 hts zgoodIn zw_1090 zw_1092 zw_43 zw_64 zw_1093 rfl rfl hX11_saidBy ⟨Nat.le_of_ble_eq_true rfl, Nat.le_of_ble_eq_true rfl⟩) zO1_0 rfl hl.1 rfl (Nat.le_of_ble_eq_true rfl) dX11_said_67 ⟨Nat.zero_le _, Nat.zero_le _⟩ (fun H locs hw => ?_)
          obtain ⟨r9, e10, h⟩ := zbind h
          refine z_cVi (As := [.int x1, .int x2, .int x3, .int (fX11_allWords σ), .int r7]) (rest := []) ⟨hx, hb, hml, hown, hts⟩ hK hw hA (kX11_times l D g ad σ x1 x2 x3 (fX11_allWords σ) r7 r9 e10) (zcwV 5 hts zgoodIn zw_1070 zw_1072 zw_41 zw_64 zw_1073 rfl rfl hX11_times ⟨Nat.le_of_ble_eq_true rfl, Nat.le_of_ble_eq_true rfl⟩) zO1_0 rfl hl.1 rfl (Nat.le_of_ble_eq_true rfl) dX11_said_70 ⟨Nat.zero_le _, Nat.zero_le _⟩ (fun H locs hw => ?_)
          refine lv_i2l hx hb dX11_said_73 rfl ?_
          refine lv_iload hx hb dX11_said_74 (lv_at hl 0 rfl) ?_
          refine lv_i2l hx hb dX11_said_76 rfl ?_
          refine lv_iload hx hb dX11_said_77 (lv_at hl 5 rfl) ?_
          obtain ⟨r11, e12, h⟩ := zbind h
          refine z_cSl (As := [.long r9.toInt64, .long r4.toInt64, .int x4]) (rest := []) ⟨hx, hb, hml, hown, hts⟩ hK hw hA (kX11_share l D g ad σ r9.toInt64 r4.toInt64 x4 r11 e12) (zcwS 3 hts zgoodIn zw_1042 zw_1043 zw_64 zw_1044 rfl rfl hX11_share ⟨Nat.le_of_ble_eq_true rfl, Nat.le_of_ble_eq_true rfl⟩) rfl hl.1 rfl (Nat.le_of_ble_eq_true rfl) dX11_said_79 ⟨Nat.zero_le _, Nat.zero_le _⟩ (fun H locs hw => ?_)
          obtain rfl := Option.some.inj h
          exact hret _ _ _ _ hw dX11_said_82
        · rw [if_pos t6] at h
          refine lv_ldc2 hx hb hown (hts _ zw_1029) dX11_said_51 ?_
          refine lv_goto (tgt := 82) hx hb dX11_said_54 (by decide) ?_
          obtain rfl := Option.some.inj h
          exact hret _ _ _ _ hw dX11_said_82
      · rw [if_pos t3] at h
        refine lv_ldc2 hx hb hown (hts _ zw_1029) dX11_said_25 ?_
        obtain rfl := Option.some.inj h
        exact hret _ _ _ _ hw dX11_said_28
set_option maxHeartbeats 4000000 in
set_option maxRecDepth 100000 in
theorem wX11_overOf_5 {p : Program} {l : Launch} {e : Env} {s : State} {m : MethodId} {args : Array Value} {below : List Frame} {meth : Method} {c : Code} {A : Nat → Prop} {H0 : Heap} {Q : State → Prop} {D : va_G} {g : zG} {ad : Nat → Nat} (C : zCx p c cX11_overOf s args RX11 m 5 A H0 D g) (σ : zSt) (x1 : Int32) (x2 : Int32) (n : Nat) (a : (Int32 × Int32)) (b : (Int32 × Int32)) (h : zLp (fun a => bX11_overOf_5 σ x1 x2 a.1 a.2) n a = some b) (hk : ∀ (H : Heap) (locs : List Loc) (ls : Array Slot), zH D g 1 ad A H0 σ H locs → lv_has ls 5 [(0, .ref (ad 0)), (1, .int x1), (2, .int x2), (3, .int b.1), (4, .int b.2)] → W p l e (zRm 5) s m args below meth c H locs 0 0 Q (F0 m 48 ls [])) : ∀ (H : Heap) (locs : List Loc) (ls : Array Slot), zH D g 1 ad A H0 σ H locs → lv_has ls 5 [(0, .ref (ad 0)), (1, .int x1), (2, .int x2), (3, .int a.1), (4, .int a.2)] → W p l e (zRm 5) s m args below meth c H locs 0 0 Q (F0 m 5 ls []) := by
  obtain ⟨hx, hb, hml, hown, hts, hK, hA⟩ := id C
  refine zLp_walk (P := fun (a : (Int32 × Int32)) => ∀ (H : Heap) (locs : List Loc) (ls : Array Slot), zH D g 1 ad A H0 σ H locs → lv_has ls 5 [(0, .ref (ad 0)), (1, .int x1), (2, .int x2), (3, .int a.1), (4, .int a.2)] → W p l e (zRm 5) s m args below meth c H locs 0 0 Q (F0 m 5 ls [])) (E := fun (b' : (Int32 × Int32)) => b' = b) ?_ n a b h rfl
  intro a r h hn he H locs ls hw hl
  obtain ⟨x3, x4⟩ := a
  have h : bX11_overOf_5 σ x1 x2 x3 x4 = some r := h
  have hl : lv_has ls 5 [(0, .ref (ad 0)), (1, .int x1), (2, .int x2), (3, .int x3), (4, .int x4)] := hl
  have hw : zH D g 1 ad A H0 σ H locs := hw
  unfold bX11_overOf_5 at h
  refine lv_iload hx hb dX11_overOf_5 (lv_at hl 4 rfl) ?_
  refine lv_aload_n hx hb dX11_overOf_7 rfl (lv_at hl 0 rfl) ?_
  refine z_geti hx hb hts zin_X11 hown hK hw zF1_0_5 (hts _ zw_843) dX11_overOf_8 ?_
  refine lv_icmp_ge (tgt := 48) hx hb dX11_overOf_11 (by decide) (fun t1 => ?_) (fun t1 => ?_)
  · rw [if_pos t1] at h
    obtain rfl := Option.some.inj h
    obtain rfl := he _ rfl
    exact hk _ _ _ hw (lv_sub hl [0, 1, 2, 3, 4] rfl)
  · rw [if_neg t1] at h
    refine lv_iload_n hx hb dX11_overOf_14 rfl (lv_at hl 3 rfl) ?_
    refine lv_aload_n hx hb dX11_overOf_15 rfl (lv_at hl 0 rfl) ?_
    refine lv_iload_n hx hb dX11_overOf_16 rfl (lv_at hl 1 rfl) ?_
    refine lv_iload_n hx hb dX11_overOf_17 rfl (lv_at hl 2 rfl) ?_
    refine lv_aload_n hx hb dX11_overOf_18 rfl (lv_at hl 0 rfl) ?_
    refine lv_iconst (v := 1) hx hb dX11_overOf_19 (by decide) ?_
    refine lv_iload hx hb dX11_overOf_20 (lv_at hl 4 rfl) ?_
    obtain ⟨r2, e3, h⟩ := zbind h
    refine z_cVi (As := [.int (1 : Int32), .int x4]) (rest := [.int x2, .int x1, .ref (ad 0), .int x3]) ⟨hx, hb, hml, hown, hts⟩ hK hw hA (kX11_meantBy l D g ad σ (1 : Int32) x4 r2 e3) (zcwV 2 hts zgoodIn zw_985 zw_987 zw_32 zw_64 zw_988 rfl rfl hX11_meantBy ⟨Nat.le_of_ble_eq_true rfl, Nat.le_of_ble_eq_true rfl⟩) zO1_0 rfl hl.1 rfl (Nat.le_of_ble_eq_true rfl) dX11_overOf_22 ⟨Nat.zero_le _, Nat.zero_le _⟩ (fun H locs hw => ?_)
    refine lv_iconst (v := 1) hx hb dX11_overOf_25 (by decide) ?_
    refine lv_aload_n hx hb dX11_overOf_26 rfl (lv_at hl 0 rfl) ?_
    refine lv_iconst (v := 0) hx hb dX11_overOf_27 (by decide) ?_
    refine lv_iload_n hx hb dX11_overOf_28 rfl (lv_at hl 2 rfl) ?_
    obtain ⟨r4, e5, h⟩ := zbind h
    refine z_cVi (As := [.int (0 : Int32), .int x2]) (rest := [.int (1 : Int32), .int r2, .int x2, .int x1, .ref (ad 0), .int x3]) ⟨hx, hb, hml, hown, hts⟩ hK hw hA (kX11_meantBy l D g ad σ (0 : Int32) x2 r4 e5) (zcwV 2 hts zgoodIn zw_985 zw_987 zw_32 zw_64 zw_988 rfl rfl hX11_meantBy ⟨Nat.le_of_ble_eq_true rfl, Nat.le_of_ble_eq_true rfl⟩) zO1_0 rfl hl.1 rfl (Nat.le_of_ble_eq_true rfl) dX11_overOf_29 ⟨Nat.zero_le _, Nat.zero_le _⟩ (fun H locs hw => ?_)
    refine lv_ishl hx hb dX11_overOf_32 ?_
    refine lv_iconst (v := 1) hx hb dX11_overOf_33 (by decide) ?_
    refine lv_iload hx hb dX11_overOf_34 (lv_at hl 4 rfl) ?_
    refine lv_ishl hx hb dX11_overOf_36 ?_
    obtain ⟨r6, e7, h⟩ := zbind h
    refine z_cVi (As := [.int x1, .int x2, .int r2, .int ((1 : Int32) <<< (r4 &&& 31)), .int ((1 : Int32) <<< (x4 &&& 31))]) (rest := [.int x3]) ⟨hx, hb, hml, hown, hts⟩ hK hw hA (kX11_times l D g ad σ x1 x2 r2 ((1 : Int32) <<< (r4 &&& 31)) ((1 : Int32) <<< (x4 &&& 31)) r6 e7) (zcwV 5 hts zgoodIn zw_1070 zw_1072 zw_41 zw_64 zw_1073 rfl rfl hX11_times ⟨Nat.le_of_ble_eq_true rfl, Nat.le_of_ble_eq_true rfl⟩) zO1_0 rfl hl.1 rfl (Nat.le_of_ble_eq_true rfl) dX11_overOf_37 ⟨Nat.zero_le _, Nat.zero_le _⟩ (fun H locs hw => ?_)
    refine lv_iadd hx hb dX11_overOf_40 ?_
    refine lv_istore_n (lv' := [(3, .int (x3 + r6)), (0, .ref (ad 0)), (1, .int x1), (2, .int x2), (4, .int x4)]) hx hb dX11_overOf_41 rfl hl (by decide) rfl (fun ls hl => ?_)
    refine lv_iinc (v := x4 + 1) (lv' := [(4, .int (x4 + 1)), (3, .int (x3 + r6)), (0, .ref (ad 0)), (1, .int x1), (2, .int x2)]) hx hb dX11_overOf_42 hl (k := 4) rfl rfl (by decide) rfl (fun ls hl => ?_)
    refine lv_goto (tgt := 5) hx hb dX11_overOf_45 (by decide) ?_
    obtain rfl := Option.some.inj h
    exact hn _ rfl _ _ _ hw (lv_sub hl [2, 3, 4, 1, 0] rfl)
theorem hX11_overOf : yX11_overOf.cls = RX11 ∧ yX11_overOf.cls ≠ "java/lang/invoke/MethodHandle" ∧ yX11_overOf.cls ≠ "java/lang/invoke/VarHandle" ∧ (parseMethodDescriptor yX11_overOf.desc).map (fun d => d.parameters.length) = some 2 := by decide +kernel
set_option maxHeartbeats 4000000 in
set_option maxRecDepth 100000 in
theorem kX11_overOf (l : Launch) (D : va_G) (g : zG) (ad : Nat → Nat) (σ : zSt) (x1 : Int32) (x2 : Int32) (o : Int32) (h : fX11_overOf σ x1 x2 = some o) : zMi l D g 1 ad yX11_overOf (Cond.code yX11_overOf cX11_overOf 5 (some .int) :: zws) (zRm 5) [.ref (ad 0), .int x1, .int x2] σ o σ := by
  refine z_enter_i (by decide) (Nat.le_of_ble_eq_true rfl) ?_
  intro p e s m below meth c A ls Q C hw hl hret
  obtain ⟨hx, hb, hml, hown, hts, hK, hA⟩ := id C
  have hown : s.vm.findClass RX11 = some m.cls := hown
  have C : zCx p c cX11_overOf s _ RX11 m 5 A s.heap D g := C
  have hl : lv_has ls 5 [(0, .ref (ad 0)), (1, .int x1), (2, .int x2)] := hl
  unfold fX11_overOf at h
  refine lv_iconst (v := 0) hx hb dX11_overOf_0 (by decide) ?_
  refine lv_istore_n (lv' := [(3, .int (0 : Int32)), (0, .ref (ad 0)), (1, .int x1), (2, .int x2)]) hx hb dX11_overOf_1 rfl hl (by decide) rfl (fun ls hl => ?_)
  refine lv_iconst (v := 0) hx hb dX11_overOf_2 (by decide) ?_
  refine lv_istore (lv' := [(4, .int (0 : Int32)), (3, .int (0 : Int32)), (0, .ref (ad 0)), (1, .int x1), (2, .int x2)]) hx hb dX11_overOf_3 hl (by decide) rfl (fun ls hl => ?_)
  obtain ⟨b1, e2, h⟩ := zbind h
  refine wX11_overOf_5 C σ x1 x2 zFU ((0 : Int32), (0 : Int32)) b1 e2 (fun H locs ls hw hl => ?_) _ _ _ hw (lv_sub hl [2, 3, 4, 1, 0] rfl)
  have hl : lv_has ls 5 [(0, .ref (ad 0)), (1, .int x1), (2, .int x2), (3, .int b1.1), (4, .int b1.2)] := hl
  refine lv_iload_n hx hb dX11_overOf_48 rfl (lv_at hl 3 rfl) ?_
  obtain rfl := Option.some.inj h
  exact hret _ _ _ _ hw rfl dX11_overOf_49
theorem hX11_over : yX11_over.cls = RX11 ∧ yX11_over.cls ≠ "java/lang/invoke/MethodHandle" ∧ yX11_over.cls ≠ "java/lang/invoke/VarHandle" ∧ (parseMethodDescriptor yX11_over.desc).map (fun d => d.parameters.length) = some 3 := by decide +kernel
set_option maxHeartbeats 4000000 in
set_option maxRecDepth 100000 in
theorem kX11_over (l : Launch) (D : va_G) (g : zG) (ad : Nat → Nat) (σ : zSt) (x1 : Int32) (x2 : Int32) (x3 : Int32) (o : Int64) (h : fX11_over σ x1 x2 x3 = some o) : zMl l D g 1 ad yX11_over (Cond.code yX11_over cX11_over 4 (some .long) :: zws) (zRm 6) [.ref (ad 0), .int x1, .int x2, .int x3] σ o σ := by
  refine z_enter_l (by decide) (Nat.le_of_ble_eq_true rfl) ?_
  intro p e s m below meth c A ls Q C hw hl hret
  obtain ⟨hx, hb, hml, hown, hts, hK, hA⟩ := id C
  have hown : s.vm.findClass RX11 = some m.cls := hown
  have C : zCx p c cX11_over s _ RX11 m 4 A s.heap D g := C
  have hl : lv_has ls 4 [(0, .ref (ad 0)), (1, .int x1), (2, .int x2), (3, .int x3)] := hl
  unfold fX11_over at h
  refine lv_aload_n hx hb dX11_over_0 rfl (lv_at hl 0 rfl) ?_
  refine lv_iload_n hx hb dX11_over_1 rfl (lv_at hl 1 rfl) ?_
  refine z_cVi (As := [.int x1]) (rest := []) ⟨hx, hb, hml, hown, hts⟩ hK hw hA (kX11_isInterpreter l D g ad σ x1 _ rfl) (zcwV 1 hts zgoodIn zw_1001 zw_1003 zw_33 zw_64 zw_1004 rfl rfl hX11_isInterpreter ⟨Nat.le_of_ble_eq_true rfl, Nat.le_of_ble_eq_true rfl⟩) zO1_0 rfl hl.1 rfl (Nat.le_of_ble_eq_true rfl) dX11_over_2 ⟨Nat.zero_le _, Nat.zero_le _⟩ (fun H locs hw => ?_)
  refine lv_if_eq (tgt := 30) hx hb dX11_over_5 (by decide) (fun t1 => ?_) (fun t1 => ?_)
  · rw [if_pos t1] at h
    refine lv_ldc2 hx hb hown (hts _ zw_1029) dX11_over_30 ?_
    obtain rfl := Option.some.inj h
    exact hret _ _ _ _ hw dX11_over_33
  · rw [if_neg t1] at h
    refine lv_aload_n hx hb dX11_over_8 rfl (lv_at hl 0 rfl) ?_
    refine lv_iload_n hx hb dX11_over_9 rfl (lv_at hl 2 rfl) ?_
    refine z_cVi (As := [.int x2]) (rest := []) ⟨hx, hb, hml, hown, hts⟩ hK hw hA (kX11_isWord l D g ad σ x2 _ rfl) (zcwV 1 hts zgoodIn zw_964 zw_966 zw_30 zw_64 zw_967 rfl rfl hX11_isWord ⟨Nat.le_of_ble_eq_true rfl, Nat.le_of_ble_eq_true rfl⟩) zO1_0 rfl hl.1 rfl (Nat.le_of_ble_eq_true rfl) dX11_over_10 ⟨Nat.zero_le _, Nat.zero_le _⟩ (fun H locs hw => ?_)
    refine lv_if_eq (tgt := 30) hx hb dX11_over_13 (by decide) (fun t2 => ?_) (fun t2 => ?_)
    · rw [if_pos t2] at h
      refine lv_ldc2 hx hb hown (hts _ zw_1029) dX11_over_30 ?_
      obtain rfl := Option.some.inj h
      exact hret _ _ _ _ hw dX11_over_33
    · rw [if_neg t2] at h
      refine lv_iload_n hx hb dX11_over_16 rfl (lv_at hl 3 rfl) ?_
      refine z_cSi (As := [.int x3]) (rest := []) ⟨hx, hb, hml, hown, hts⟩ hK hw hA (kX11_isWhich l D g ad σ x3 _ rfl) (zcwS 1 hts zgoodIn zw_1034 zw_1035 zw_64 zw_1036 rfl rfl hX11_isWhich ⟨Nat.le_of_ble_eq_true rfl, Nat.le_of_ble_eq_true rfl⟩) rfl hl.1 rfl (Nat.le_of_ble_eq_true rfl) dX11_over_17 ⟨Nat.zero_le _, Nat.zero_le _⟩ (fun H locs hw => ?_)
      refine lv_if_eq (tgt := 30) hx hb dX11_over_20 (by decide) (fun t3 => ?_) (fun t3 => ?_)
      · rw [if_pos t3] at h
        refine lv_ldc2 hx hb hown (hts _ zw_1029) dX11_over_30 ?_
        obtain rfl := Option.some.inj h
        exact hret _ _ _ _ hw dX11_over_33
      · rw [if_neg t3] at h
        refine lv_aload_n hx hb dX11_over_23 rfl (lv_at hl 0 rfl) ?_
        refine z_geti hx hb hts zin_X11 hown hK hw zF1_0_16 (hts _ zw_854) dX11_over_24 ?_
        refine lv_if_ne (tgt := 34) hx hb dX11_over_27 (by decide) (fun t4 => ?_) (fun t4 => ?_)
        · rw [if_neg t4] at h
          refine lv_aload_n hx hb dX11_over_34 rfl (lv_at hl 0 rfl) ?_
          refine lv_iload_n hx hb dX11_over_35 rfl (lv_at hl 1 rfl) ?_
          refine lv_iload_n hx hb dX11_over_36 rfl (lv_at hl 2 rfl) ?_
          obtain ⟨r5, e6, h⟩ := zbind h
          refine z_cVi (As := [.int x1, .int x2]) (rest := []) ⟨hx, hb, hml, hown, hts⟩ hK hw hA (kX11_overOf l D g ad σ x1 x2 r5 e6) (zcwV 2 hts zgoodIn zw_1098 zw_1100 zw_44 zw_64 zw_1101 rfl rfl hX11_overOf ⟨Nat.le_of_ble_eq_true rfl, Nat.le_of_ble_eq_true rfl⟩) zO1_0 rfl hl.1 rfl (Nat.le_of_ble_eq_true rfl) dX11_over_37 ⟨Nat.zero_le _, Nat.zero_le _⟩ (fun H locs hw => ?_)
          refine lv_i2l hx hb dX11_over_40 rfl ?_
          refine lv_ldc2 hx hb hown (hts _ zw_1077) dX11_over_41 ?_
          refine lv_iload_n hx hb dX11_over_44 rfl (lv_at hl 3 rfl) ?_
          obtain ⟨r7, e8, h⟩ := zbind h
          refine z_cSl (As := [.long r5.toInt64, .long (2985984 : Int64), .int x3]) (rest := []) ⟨hx, hb, hml, hown, hts⟩ hK hw hA (kX11_share l D g ad σ r5.toInt64 (2985984 : Int64) x3 r7 e8) (zcwS 3 hts zgoodIn zw_1042 zw_1043 zw_64 zw_1044 rfl rfl hX11_share ⟨Nat.le_of_ble_eq_true rfl, Nat.le_of_ble_eq_true rfl⟩) rfl hl.1 rfl (Nat.le_of_ble_eq_true rfl) dX11_over_45 ⟨Nat.zero_le _, Nat.zero_le _⟩ (fun H locs hw => ?_)
          obtain rfl := Option.some.inj h
          exact hret _ _ _ _ hw dX11_over_48
        · rw [if_pos t4] at h
          refine lv_ldc2 hx hb hown (hts _ zw_1029) dX11_over_30 ?_
          obtain rfl := Option.some.inj h
          exact hret _ _ _ _ hw dX11_over_33
set_option maxHeartbeats 4000000 in
set_option maxRecDepth 100000 in
theorem wX11_ask_46 {p : Program} {l : Launch} {e : Env} {s : State} {m : MethodId} {args : Array Value} {below : List Frame} {meth : Method} {c : Code} {A : Nat → Prop} {H0 : Heap} {Q : State → Prop} {D : va_G} {g : zG} {ad : Nat → Nat} (C : zCx p c cX11_ask s args RX11 m 6 A H0 D g) (σ : zSt) (x1 : Int32) (x2 : Int32) (n : Nat) (a : (Int32 × Int32 × Int32)) (b : (Int32 × Int32 × Int32)) (h : zLp (fun a => bX11_ask_46 σ x1 x2 a.1 a.2.1 a.2.2) n a = some b) (hk : ∀ (H : Heap) (locs : List Loc) (ls : Array Slot), zH D g 1 ad A H0 σ H locs → lv_has ls 6 [(0, .ref (ad 0)), (1, .int x1), (2, .int x2), (3, .int b.1), (4, .int b.2.1), (5, .int b.2.2)] → W p l e (zRm 6) s m args below meth c H locs 0 0 Q (F0 m 94 ls [])) : ∀ (H : Heap) (locs : List Loc) (ls : Array Slot), zH D g 1 ad A H0 σ H locs → lv_has ls 6 [(0, .ref (ad 0)), (1, .int x1), (2, .int x2), (3, .int a.1), (4, .int a.2.1), (5, .int a.2.2)] → W p l e (zRm 6) s m args below meth c H locs 0 0 Q (F0 m 46 ls []) := by
  obtain ⟨hx, hb, hml, hown, hts, hK, hA⟩ := id C
  refine zLp_walk (P := fun (a : (Int32 × Int32 × Int32)) => ∀ (H : Heap) (locs : List Loc) (ls : Array Slot), zH D g 1 ad A H0 σ H locs → lv_has ls 6 [(0, .ref (ad 0)), (1, .int x1), (2, .int x2), (3, .int a.1), (4, .int a.2.1), (5, .int a.2.2)] → W p l e (zRm 6) s m args below meth c H locs 0 0 Q (F0 m 46 ls [])) (E := fun (b' : (Int32 × Int32 × Int32)) => b' = b) ?_ n a b h rfl
  intro a r h hn he H locs ls hw hl
  obtain ⟨x3, x4, x5⟩ := a
  have h : bX11_ask_46 σ x1 x2 x3 x4 x5 = some r := h
  have hl : lv_has ls 6 [(0, .ref (ad 0)), (1, .int x1), (2, .int x2), (3, .int x3), (4, .int x4), (5, .int x5)] := hl
  have hw : zH D g 1 ad A H0 σ H locs := hw
  unfold bX11_ask_46 at h
  refine lv_iload hx hb dX11_ask_46 (lv_at hl 5 rfl) ?_
  refine lv_aload_n hx hb dX11_ask_48 rfl (lv_at hl 0 rfl) ?_
  refine z_geti hx hb hts zin_X11 hown hK hw zF1_0_5 (hts _ zw_843) dX11_ask_49 ?_
  refine lv_icmp_ge (tgt := 94) hx hb dX11_ask_52 (by decide) (fun t1 => ?_) (fun t1 => ?_)
  · rw [if_pos t1] at h
    obtain rfl := Option.some.inj h
    obtain rfl := he _ rfl
    exact hk _ _ _ hw (lv_sub hl [0, 1, 2, 3, 4, 5] rfl)
  · rw [if_neg t1] at h
    refine lv_iload_n hx hb dX11_ask_55 rfl (lv_at hl 2 rfl) ?_
    refine lv_iload hx hb dX11_ask_56 (lv_at hl 5 rfl) ?_
    refine z_cSi (As := [.int x2, .int x5]) (rest := []) ⟨hx, hb, hml, hown, hts⟩ hK hw hA (kX11_has l D g ad σ x2 x5 _ rfl) (zcwS 2 hts zgoodIn zw_1074 zw_1075 zw_64 zw_1076 rfl rfl hX11_has ⟨Nat.le_of_ble_eq_true rfl, Nat.le_of_ble_eq_true rfl⟩) rfl hl.1 rfl (Nat.le_of_ble_eq_true rfl) dX11_ask_58 ⟨Nat.zero_le _, Nat.zero_le _⟩ (fun H locs hw => ?_)
    refine lv_if_eq (tgt := 88) hx hb dX11_ask_61 (by decide) (fun t2 => ?_) (fun t2 => ?_)
    · rw [if_pos t2] at h
      refine lv_iinc (v := x5 + 1) (lv' := [(5, .int (x5 + 1)), (0, .ref (ad 0)), (1, .int x1), (2, .int x2), (3, .int x3), (4, .int x4)]) hx hb dX11_ask_88 hl (k := 5) rfl rfl (by decide) rfl (fun ls hl => ?_)
      refine lv_goto (tgt := 46) hx hb dX11_ask_91 (by decide) ?_
      obtain rfl := Option.some.inj h
      exact hn _ rfl _ _ _ hw (lv_sub hl [1, 2, 3, 4, 5, 0] rfl)
    · rw [if_neg t2] at h
      refine lv_aload_n hx hb dX11_ask_64 rfl (lv_at hl 0 rfl) ?_
      refine lv_iload_n hx hb dX11_ask_65 rfl (lv_at hl 1 rfl) ?_
      refine lv_iload hx hb dX11_ask_66 (lv_at hl 5 rfl) ?_
      obtain ⟨r3, e4, h⟩ := zbind h
      refine z_cVi (As := [.int x1, .int x5]) (rest := []) ⟨hx, hb, hml, hown, hts⟩ hK hw hA (kX11_overOf l D g ad σ x1 x5 r3 e4) (zcwV 2 hts zgoodIn zw_1098 zw_1100 zw_44 zw_64 zw_1101 rfl rfl hX11_overOf ⟨Nat.le_of_ble_eq_true rfl, Nat.le_of_ble_eq_true rfl⟩) zO1_0 rfl hl.1 rfl (Nat.le_of_ble_eq_true rfl) dX11_ask_68 ⟨Nat.zero_le _, Nat.zero_le _⟩ (fun H locs hw => ?_)
      refine lv_iload hx hb dX11_ask_71 (lv_at hl 4 rfl) ?_
      refine lv_icmp_le (tgt := 88) hx hb dX11_ask_73 (by decide) (fun t5 => ?_) (fun t5 => ?_)
      · rw [if_pos t5] at h
        refine lv_iinc (v := x5 + 1) (lv' := [(5, .int (x5 + 1)), (0, .ref (ad 0)), (1, .int x1), (2, .int x2), (3, .int x3), (4, .int x4)]) hx hb dX11_ask_88 hl (k := 5) rfl rfl (by decide) rfl (fun ls hl => ?_)
        refine lv_goto (tgt := 46) hx hb dX11_ask_91 (by decide) ?_
        obtain rfl := Option.some.inj h
        exact hn _ rfl _ _ _ hw (lv_sub hl [1, 2, 3, 4, 5, 0] rfl)
      · rw [if_neg t5] at h
        refine lv_aload_n hx hb dX11_ask_76 rfl (lv_at hl 0 rfl) ?_
        refine lv_iload_n hx hb dX11_ask_77 rfl (lv_at hl 1 rfl) ?_
        refine lv_iload hx hb dX11_ask_78 (lv_at hl 5 rfl) ?_
        obtain ⟨r6, e7, h⟩ := zbind h
        refine z_cVi (As := [.int x1, .int x5]) (rest := []) ⟨hx, hb, hml, hown, hts⟩ hK hw hA (kX11_overOf l D g ad σ x1 x5 r6 e7) (zcwV 2 hts zgoodIn zw_1098 zw_1100 zw_44 zw_64 zw_1101 rfl rfl hX11_overOf ⟨Nat.le_of_ble_eq_true rfl, Nat.le_of_ble_eq_true rfl⟩) zO1_0 rfl hl.1 rfl (Nat.le_of_ble_eq_true rfl) dX11_ask_80 ⟨Nat.zero_le _, Nat.zero_le _⟩ (fun H locs hw => ?_)
        refine lv_istore (lv' := [(4, .int r6), (0, .ref (ad 0)), (1, .int x1), (2, .int x2), (3, .int x3), (5, .int x5)]) hx hb dX11_ask_83 hl (by decide) rfl (fun ls hl => ?_)
        refine lv_iload hx hb dX11_ask_85 (lv_at hl 5 rfl) ?_
        refine lv_istore_n (lv' := [(3, .int x5), (4, .int r6), (0, .ref (ad 0)), (1, .int x1), (2, .int x2), (5, .int x5)]) hx hb dX11_ask_87 rfl hl (by decide) rfl (fun ls hl => ?_)
        refine lv_iinc (v := x5 + 1) (lv' := [(5, .int (x5 + 1)), (3, .int x5), (4, .int r6), (0, .ref (ad 0)), (1, .int x1), (2, .int x2)]) hx hb dX11_ask_88 hl (k := 5) rfl rfl (by decide) rfl (fun ls hl => ?_)
        refine lv_goto (tgt := 46) hx hb dX11_ask_91 (by decide) ?_
        obtain rfl := Option.some.inj h
        exact hn _ rfl _ _ _ hw (lv_sub hl [3, 4, 5, 1, 2, 0] rfl)
theorem hX11_ask : yX11_ask.cls = RX11 ∧ yX11_ask.cls ≠ "java/lang/invoke/MethodHandle" ∧ yX11_ask.cls ≠ "java/lang/invoke/VarHandle" ∧ (parseMethodDescriptor yX11_ask.desc).map (fun d => d.parameters.length) = some 2 := by decide +kernel
set_option maxHeartbeats 4000000 in
set_option maxRecDepth 100000 in
theorem kX11_ask (l : Launch) (D : va_G) (g : zG) (ad : Nat → Nat) (σ : zSt) (x1 : Int32) (x2 : Int32) (o : Int32) (h : fX11_ask σ x1 x2 = some o) : zMi l D g 1 ad yX11_ask (Cond.code yX11_ask cX11_ask 6 (some .int) :: zws) (zRm 6) [.ref (ad 0), .int x1, .int x2] σ o σ := by
  refine z_enter_i (by decide) (Nat.le_of_ble_eq_true rfl) ?_
  intro p e s m below meth c A ls Q C hw hl hret
  obtain ⟨hx, hb, hml, hown, hts, hK, hA⟩ := id C
  have hown : s.vm.findClass RX11 = some m.cls := hown
  have C : zCx p c cX11_ask s _ RX11 m 6 A s.heap D g := C
  have hl : lv_has ls 6 [(0, .ref (ad 0)), (1, .int x1), (2, .int x2)] := hl
  unfold fX11_ask at h
  refine lv_aload_n hx hb dX11_ask_0 rfl (lv_at hl 0 rfl) ?_
  refine lv_iload_n hx hb dX11_ask_1 rfl (lv_at hl 1 rfl) ?_
  refine z_cVi (As := [.int x1]) (rest := []) ⟨hx, hb, hml, hown, hts⟩ hK hw hA (kX11_isInterpreter l D g ad σ x1 _ rfl) (zcwV 1 hts zgoodIn zw_1001 zw_1003 zw_33 zw_64 zw_1004 rfl rfl hX11_isInterpreter ⟨Nat.le_of_ble_eq_true rfl, Nat.le_of_ble_eq_true rfl⟩) zO1_0 rfl hl.1 rfl (Nat.le_of_ble_eq_true rfl) dX11_ask_2 ⟨Nat.zero_le _, Nat.zero_le _⟩ (fun H locs hw => ?_)
  refine lv_if_ne (tgt := 10) hx hb dX11_ask_5 (by decide) (fun t1 => ?_) (fun t1 => ?_)
  · rw [if_neg t1] at h
    refine lv_iload_n hx hb dX11_ask_10 rfl (lv_at hl 2 rfl) ?_
    refine lv_if_lt (tgt := 24) hx hb dX11_ask_11 (by decide) (fun t2 => ?_) (fun t2 => ?_)
    · rw [if_pos t2] at h
      refine lv_bipush (v := (-2)) hx hb dX11_ask_24 (by decide) ?_
      obtain rfl := Option.some.inj h
      exact hret _ _ _ _ hw rfl dX11_ask_26
    · rw [if_neg t2] at h
      refine lv_iload_n hx hb dX11_ask_14 rfl (lv_at hl 2 rfl) ?_
      refine lv_iconst (v := 1) hx hb dX11_ask_15 (by decide) ?_
      refine lv_aload_n hx hb dX11_ask_16 rfl (lv_at hl 0 rfl) ?_
      refine z_geti hx hb hts zin_X11 hown hK hw zF1_0_5 (hts _ zw_843) dX11_ask_17 ?_
      refine lv_ishl hx hb dX11_ask_20 ?_
      refine lv_icmp_lt (tgt := 27) hx hb dX11_ask_21 (by decide) (fun t3 => ?_) (fun t3 => ?_)
      · rw [if_pos t3] at h
        refine lv_aload_n hx hb dX11_ask_27 rfl (lv_at hl 0 rfl) ?_
        refine z_geti hx hb hts zin_X11 hown hK hw zF1_0_16 (hts _ zw_854) dX11_ask_28 ?_
        refine lv_if_ne (tgt := 37) hx hb dX11_ask_31 (by decide) (fun t4 => ?_) (fun t4 => ?_)
        · rw [if_neg t4] at h
          refine lv_bipush (v := (-9)) hx hb dX11_ask_37 (by decide) ?_
          refine lv_istore_n (lv' := [(3, .int (-9 : Int32)), (0, .ref (ad 0)), (1, .int x1), (2, .int x2)]) hx hb dX11_ask_39 rfl hl (by decide) rfl (fun ls hl => ?_)
          refine lv_iconst (v := (-1)) hx hb dX11_ask_40 (by decide) ?_
          refine lv_istore (lv' := [(4, .int (-1 : Int32)), (3, .int (-9 : Int32)), (0, .ref (ad 0)), (1, .int x1), (2, .int x2)]) hx hb dX11_ask_41 hl (by decide) rfl (fun ls hl => ?_)
          refine lv_iconst (v := 0) hx hb dX11_ask_43 (by decide) ?_
          refine lv_istore (lv' := [(5, .int (0 : Int32)), (4, .int (-1 : Int32)), (3, .int (-9 : Int32)), (0, .ref (ad 0)), (1, .int x1), (2, .int x2)]) hx hb dX11_ask_44 hl (by decide) rfl (fun ls hl => ?_)
          obtain ⟨b5, e6, h⟩ := zbind h
          refine wX11_ask_46 C σ x1 x2 zFU ((-9 : Int32), (-1 : Int32), (0 : Int32)) b5 e6 (fun H locs ls hw hl => ?_) _ _ _ hw (lv_sub hl [3, 4, 5, 2, 1, 0] rfl)
          have hl : lv_has ls 6 [(0, .ref (ad 0)), (1, .int x1), (2, .int x2), (3, .int b5.1), (4, .int b5.2.1), (5, .int b5.2.2)] := hl
          refine lv_iload_n hx hb dX11_ask_94 rfl (lv_at hl 3 rfl) ?_
          obtain rfl := Option.some.inj h
          exact hret _ _ _ _ hw rfl dX11_ask_95
        · rw [if_pos t4] at h
          refine lv_bipush (v := (-3)) hx hb dX11_ask_34 (by decide) ?_
          obtain rfl := Option.some.inj h
          exact hret _ _ _ _ hw rfl dX11_ask_36
      · rw [if_neg t3] at h
        refine lv_bipush (v := (-2)) hx hb dX11_ask_24 (by decide) ?_
        obtain rfl := Option.some.inj h
        exact hret _ _ _ _ hw rfl dX11_ask_26
  · rw [if_pos t1] at h
    refine lv_iconst (v := (-1)) hx hb dX11_ask_8 (by decide) ?_
    obtain rfl := Option.some.inj h
    exact hret _ _ _ _ hw rfl dX11_ask_9
theorem hX11_turn : yX11_turn.cls = RX11 ∧ yX11_turn.cls ≠ "java/lang/invoke/MethodHandle" ∧ yX11_turn.cls ≠ "java/lang/invoke/VarHandle" ∧ (parseMethodDescriptor yX11_turn.desc).map (fun d => d.parameters.length) = some 5 := by decide +kernel
set_option maxHeartbeats 4000000 in
set_option maxRecDepth 100000 in
theorem kX11_turn (l : Launch) (D : va_G) (g : zG) (ad : Nat → Nat) (σ : zSt) (x1 : Int32) (x2 : Int32) (x3 : Int32) (x4 : Int32) (x5 : Int32) (o : Int32 × zSt) (h : fX11_turn σ x1 x2 x3 x4 x5 = some o) : zMi l D g 1 ad yX11_turn (Cond.code yX11_turn cX11_turn 6 (some .int) :: zws) (zRm 2) [.ref (ad 0), .int x1, .int x2, .int x3, .int x4, .int x5] σ o.1 o.2 := by
  refine z_enter_i (by decide) (Nat.le_of_ble_eq_true rfl) ?_
  intro p e s m below meth c A ls Q C hw hl hret
  obtain ⟨hx, hb, hml, hown, hts, hK, hA⟩ := id C
  have hown : s.vm.findClass RX11 = some m.cls := hown
  have C : zCx p c cX11_turn s _ RX11 m 6 A s.heap D g := C
  have hl : lv_has ls 6 [(0, .ref (ad 0)), (1, .int x1), (2, .int x2), (3, .int x3), (4, .int x4), (5, .int x5)] := hl
  unfold fX11_turn at h
  refine lv_aload_n hx hb dX11_turn_0 rfl (lv_at hl 0 rfl) ?_
  refine lv_iload_n hx hb dX11_turn_1 rfl (lv_at hl 1 rfl) ?_
  refine lv_iload_n hx hb dX11_turn_2 rfl (lv_at hl 2 rfl) ?_
  refine lv_iload_n hx hb dX11_turn_3 rfl (lv_at hl 3 rfl) ?_
  refine z_cVi (As := [.int x1, .int x2, .int x3]) (rest := []) ⟨hx, hb, hml, hown, hts⟩ hK hw hA (kX11_isAsked l D g ad σ x1 x2 x3 _ rfl) (zcwV 3 hts zgoodIn zw_1082 zw_1084 zw_42 zw_64 zw_1085 rfl rfl hX11_isAsked ⟨Nat.le_of_ble_eq_true rfl, Nat.le_of_ble_eq_true rfl⟩) zO1_0 rfl hl.1 rfl (Nat.le_of_ble_eq_true rfl) dX11_turn_4 ⟨Nat.zero_le _, Nat.zero_le _⟩ (fun H locs hw => ?_)
  refine lv_if_ne (tgt := 12) hx hb dX11_turn_7 (by decide) (fun t1 => ?_) (fun t1 => ?_)
  · rw [if_neg t1] at h
    refine lv_iload hx hb dX11_turn_12 (lv_at hl 4 rfl) ?_
    refine lv_iconst (v := 0) hx hb dX11_turn_14 (by decide) ?_
    refine lv_bipush (v := 9) hx hb dX11_turn_15 (by decide) ?_
    refine z_cSi (As := [.int x4, .int (0 : Int32), .int (9 : Int32)]) (rest := []) ⟨hx, hb, hml, hown, hts⟩ hK hw hA (kX11_within l D g ad σ x4 (0 : Int32) (9 : Int32) _ rfl) (zcwS 3 hts zgoodIn zw_930 zw_931 zw_64 zw_932 rfl rfl hX11_within ⟨Nat.le_of_ble_eq_true rfl, Nat.le_of_ble_eq_true rfl⟩) rfl hl.1 rfl (Nat.le_of_ble_eq_true rfl) dX11_turn_17 ⟨Nat.zero_le _, Nat.zero_le _⟩ (fun H locs hw => ?_)
    refine lv_if_eq (tgt := 34) hx hb dX11_turn_20 (by decide) (fun t2 => ?_) (fun t2 => ?_)
    · rw [if_pos t2] at h
      refine lv_bipush (v := (-2)) hx hb dX11_turn_34 (by decide) ?_
      obtain rfl := Option.some.inj h
      exact hret _ _ _ _ hw rfl dX11_turn_36
    · rw [if_neg t2] at h
      refine lv_iload hx hb dX11_turn_23 (lv_at hl 5 rfl) ?_
      refine lv_iconst (v := 1) hx hb dX11_turn_25 (by decide) ?_
      refine lv_bipush (v := 9) hx hb dX11_turn_26 (by decide) ?_
      refine z_cSi (As := [.int x5, .int (1 : Int32), .int (9 : Int32)]) (rest := []) ⟨hx, hb, hml, hown, hts⟩ hK hw hA (kX11_within l D g ad σ x5 (1 : Int32) (9 : Int32) _ rfl) (zcwS 3 hts zgoodIn zw_930 zw_931 zw_64 zw_932 rfl rfl hX11_within ⟨Nat.le_of_ble_eq_true rfl, Nat.le_of_ble_eq_true rfl⟩) rfl hl.1 rfl (Nat.le_of_ble_eq_true rfl) dX11_turn_28 ⟨Nat.zero_le _, Nat.zero_le _⟩ (fun H locs hw => ?_)
      refine lv_if_ne (tgt := 37) hx hb dX11_turn_31 (by decide) (fun t3 => ?_) (fun t3 => ?_)
      · rw [if_neg t3] at h
        refine lv_aload_n hx hb dX11_turn_37 rfl (lv_at hl 0 rfl) ?_
        refine z_geti hx hb hts zin_X11 hown hK hw zF1_0_16 (hts _ zw_854) dX11_turn_38 ?_
        refine lv_if_ne (tgt := 47) hx hb dX11_turn_41 (by decide) (fun t4 => ?_) (fun t4 => ?_)
        · rw [if_neg t4] at h
          refine lv_aload_n hx hb dX11_turn_47 rfl (lv_at hl 0 rfl) ?_
          refine z_geti hx hb hts zin_X11 hown hK hw zF1_0_19 (hts _ zw_857) dX11_turn_48 ?_
          refine lv_bipush (v := 6) hx hb dX11_turn_51 (by decide) ?_
          refine lv_icmp_ne (tgt := 59) hx hb dX11_turn_53 (by decide) (fun t5 => ?_) (fun t5 => ?_)
          · rw [if_neg t5] at h
            refine lv_aload_n hx hb dX11_turn_59 rfl (lv_at hl 0 rfl) ?_
            refine z_getc hx hb hts zin_X11 hown hK hw zF1_0_20 (hts _ zw_858) dX11_turn_60 ?_
            refine lv_aload_n hx hb dX11_turn_63 rfl (lv_at hl 0 rfl) ?_
            refine z_geti hx hb hts zin_X11 hown hK hw zF1_0_19 (hts _ zw_857) dX11_turn_64 ?_
            refine lv_iload_n hx hb dX11_turn_67 rfl (lv_at hl 1 rfl) ?_
            obtain ⟨s6, e7, h⟩ := zbind h
            refine z_iast hx hb hK hw e7 dX11_turn_68 (fun H locs hw => ?_)
            refine lv_aload_n hx hb dX11_turn_69 rfl (lv_at hl 0 rfl) ?_
            refine z_getc hx hb hts zin_X11 hown hK hw zF1_0_21 (hts _ zw_859) dX11_turn_70 ?_
            refine lv_aload_n hx hb dX11_turn_73 rfl (lv_at hl 0 rfl) ?_
            refine z_geti hx hb hts zin_X11 hown hK hw zF1_0_19 (hts _ zw_857) dX11_turn_74 ?_
            refine lv_iload_n hx hb dX11_turn_77 rfl (lv_at hl 2 rfl) ?_
            obtain ⟨s8, e9, h⟩ := zbind h
            refine z_iast hx hb hK hw e9 dX11_turn_78 (fun H locs hw => ?_)
            refine lv_aload_n hx hb dX11_turn_79 rfl (lv_at hl 0 rfl) ?_
            refine z_getc hx hb hts zin_X11 hown hK hw zF1_0_22 (hts _ zw_860) dX11_turn_80 ?_
            refine lv_aload_n hx hb dX11_turn_83 rfl (lv_at hl 0 rfl) ?_
            refine z_geti hx hb hts zin_X11 hown hK hw zF1_0_19 (hts _ zw_857) dX11_turn_84 ?_
            refine lv_iload_n hx hb dX11_turn_87 rfl (lv_at hl 3 rfl) ?_
            obtain ⟨s10, e11, h⟩ := zbind h
            refine z_iast hx hb hK hw e11 dX11_turn_88 (fun H locs hw => ?_)
            refine lv_aload_n hx hb dX11_turn_89 rfl (lv_at hl 0 rfl) ?_
            refine z_getc hx hb hts zin_X11 hown hK hw zF1_0_23 (hts _ zw_861) dX11_turn_90 ?_
            refine lv_aload_n hx hb dX11_turn_93 rfl (lv_at hl 0 rfl) ?_
            refine z_geti hx hb hts zin_X11 hown hK hw zF1_0_19 (hts _ zw_857) dX11_turn_94 ?_
            refine lv_iload hx hb dX11_turn_97 (lv_at hl 4 rfl) ?_
            obtain ⟨s12, e13, h⟩ := zbind h
            refine z_iast hx hb hK hw e13 dX11_turn_99 (fun H locs hw => ?_)
            refine lv_aload_n hx hb dX11_turn_100 rfl (lv_at hl 0 rfl) ?_
            refine z_getc hx hb hts zin_X11 hown hK hw zF1_0_24 (hts _ zw_862) dX11_turn_101 ?_
            refine lv_aload_n hx hb dX11_turn_104 rfl (lv_at hl 0 rfl) ?_
            refine z_geti hx hb hts zin_X11 hown hK hw zF1_0_19 (hts _ zw_857) dX11_turn_105 ?_
            refine lv_iload hx hb dX11_turn_108 (lv_at hl 5 rfl) ?_
            obtain ⟨s14, e15, h⟩ := zbind h
            refine z_iast hx hb hK hw e15 dX11_turn_110 (fun H locs hw => ?_)
            refine lv_aload_n hx hb dX11_turn_111 rfl (lv_at hl 0 rfl) ?_
            refine lv_dup hx hb dX11_turn_112 rfl ?_
            refine z_geti hx hb hts zin_X11 hown hK hw zF1_0_19 (hts _ zw_857) dX11_turn_113 ?_
            refine lv_iconst (v := 1) hx hb dX11_turn_116 (by decide) ?_
            refine lv_iadd hx hb dX11_turn_117 ?_
            refine z_puti hx hb hts zin_X11 tyX11_ok nmX11 hown hK hw zF1_0_19 (hts _ zw_857) zY1_0_19 dX11_turn_118 (fun H locs hw => ?_)
            refine lv_aload_n hx hb dX11_turn_121 rfl (lv_at hl 0 rfl) ?_
            refine z_geti hx hb hts zin_X11 hown hK hw zF1_0_19 (hts _ zw_857) dX11_turn_122 ?_
            refine lv_iconst (v := 1) hx hb dX11_turn_125 (by decide) ?_
            refine lv_isub hx hb dX11_turn_126 ?_
            obtain rfl := Option.some.inj h
            exact hret _ _ _ _ hw rfl dX11_turn_127
          · rw [if_pos t5] at h
            refine lv_bipush (v := (-4)) hx hb dX11_turn_56 (by decide) ?_
            obtain rfl := Option.some.inj h
            exact hret _ _ _ _ hw rfl dX11_turn_58
        · rw [if_pos t4] at h
          refine lv_bipush (v := (-3)) hx hb dX11_turn_44 (by decide) ?_
          obtain rfl := Option.some.inj h
          exact hret _ _ _ _ hw rfl dX11_turn_46
      · rw [if_pos t3] at h
        refine lv_bipush (v := (-2)) hx hb dX11_turn_34 (by decide) ?_
        obtain rfl := Option.some.inj h
        exact hret _ _ _ _ hw rfl dX11_turn_36
  · rw [if_pos t1] at h
    refine lv_iconst (v := (-1)) hx hb dX11_turn_10 (by decide) ?_
    obtain rfl := Option.some.inj h
    exact hret _ _ _ _ hw rfl dX11_turn_11
