/-! walks: X11_fails, X11_lost, X11_within, X11_has, X11_isWhich, X11_share, X11_isSheet, X11_isSort, X11_against, X11_isWord, X11_isEnd, X11_isWay, X11_digitAt, X11_isCode, X11_readRows, X11_readTongues, X11_tongues, X11_lacks, X11_rowOf -/
theorem zbX11_within (x0 x1 x2 : Int32) : narrow .boolean (.int (fX11_within x0 x1 x2)) = .int (fX11_within x0 x1 x2) := by
  unfold fX11_within
  split <;> (try split) <;> rfl
theorem hX11_fails : yX11_fails.cls = RX11 ∧ yX11_fails.cls ≠ "java/lang/invoke/MethodHandle" ∧ yX11_fails.cls ≠ "java/lang/invoke/VarHandle" ∧ (parseMethodDescriptor yX11_fails.desc).map (fun d => d.parameters.length) = some 1 := by decide +kernel
set_option maxHeartbeats 4000000 in
set_option maxRecDepth 100000 in
theorem kX11_fails (l : Launch) (D : va_G) (g : zG) (ad : Nat → Nat) (σ : zSt) (x1 : Int32) (o : Int32 × zSt) (h : fX11_fails σ x1 = o) : zMi l D g 1 ad yX11_fails (Cond.code yX11_fails cX11_fails 2 (some .int) :: zws) (zRm 0) [.ref (ad 0), .int x1] σ o.1 o.2 := by
  refine z_enter_i (by decide) (Nat.le_of_ble_eq_true rfl) ?_
  intro p e s m below meth c A ls Q C hw hl hret
  obtain ⟨hx, hb, hml, hown, hts, hK, hA⟩ := id C
  have hown : s.vm.findClass RX11 = some m.cls := hown
  have C : zCx p c cX11_fails s _ RX11 m 2 A s.heap D g := C
  have hl : lv_has ls 2 [(0, .ref (ad 0)), (1, .int x1)] := hl
  unfold fX11_fails at h
  refine lv_aload_n hx hb dX11_fails_0 rfl (lv_at hl 0 rfl) ?_
  refine lv_iload_n hx hb dX11_fails_1 rfl (lv_at hl 1 rfl) ?_
  refine z_puti hx hb hts zin_X11 tyX11_ok nmX11 hown hK hw zF1_0_0 (hts _ zw_838) zY1_0_0 dX11_fails_2 (fun H locs hw => ?_)
  refine lv_bipush (v := (-10)) hx hb dX11_fails_5 (by decide) ?_
  refine lv_iload_n hx hb dX11_fails_7 rfl (lv_at hl 1 rfl) ?_
  refine lv_isub hx hb dX11_fails_8 ?_
  subst h
  exact hret _ _ _ _ hw rfl dX11_fails_9
theorem hX11_lost : yX11_lost.cls = RX11 ∧ yX11_lost.cls ≠ "java/lang/invoke/MethodHandle" ∧ yX11_lost.cls ≠ "java/lang/invoke/VarHandle" ∧ (parseMethodDescriptor yX11_lost.desc).map (fun d => d.parameters.length) = some 1 := by decide +kernel
set_option maxHeartbeats 4000000 in
set_option maxRecDepth 100000 in
theorem kX11_lost (l : Launch) (D : va_G) (g : zG) (ad : Nat → Nat) (σ : zSt) (x1 : Int32) (o : Int64 × zSt) (h : fX11_lost σ x1 = o) : zMl l D g 1 ad yX11_lost (Cond.code yX11_lost cX11_lost 2 (some .long) :: zws) (zRm 0) [.ref (ad 0), .int x1] σ o.1 o.2 := by
  refine z_enter_l (by decide) (Nat.le_of_ble_eq_true rfl) ?_
  intro p e s m below meth c A ls Q C hw hl hret
  obtain ⟨hx, hb, hml, hown, hts, hK, hA⟩ := id C
  have hown : s.vm.findClass RX11 = some m.cls := hown
  have C : zCx p c cX11_lost s _ RX11 m 2 A s.heap D g := C
  have hl : lv_has ls 2 [(0, .ref (ad 0)), (1, .int x1)] := hl
  unfold fX11_lost at h
  refine lv_aload_n hx hb dX11_lost_0 rfl (lv_at hl 0 rfl) ?_
  refine lv_iload_n hx hb dX11_lost_1 rfl (lv_at hl 1 rfl) ?_
  refine z_puti hx hb hts zin_X11 tyX11_ok nmX11 hown hK hw zF1_0_0 (hts _ zw_838) zY1_0_0 dX11_lost_2 (fun H locs hw => ?_)
  refine lv_ldc2 hx hb hown (hts _ zw_1029) dX11_lost_5 ?_
  subst h
  exact hret _ _ _ _ hw dX11_lost_8
theorem hX11_within : yX11_within.cls ≠ "java/lang/invoke/MethodHandle" ∧ yX11_within.cls ≠ "java/lang/invoke/VarHandle" ∧ (parseMethodDescriptor yX11_within.desc).map (fun d => d.parameters.length) = some 3 := by decide +kernel
set_option maxHeartbeats 4000000 in
set_option maxRecDepth 100000 in
theorem kX11_within (l : Launch) (D : va_G) (g : zG) (ad : Nat → Nat) (σ : zSt) (x0 : Int32) (x1 : Int32) (x2 : Int32) (o : Int32) (h : fX11_within x0 x1 x2 = o) : zMi l D g 1 ad yX11_within (Cond.code yX11_within cX11_within 3 (some .boolean) :: zws) (zRm 0) [.int x0, .int x1, .int x2] σ o σ := by
  refine z_enter_i (by decide) (Nat.le_of_ble_eq_true rfl) ?_
  intro p e s m below meth c A ls Q C hw hl hret
  obtain ⟨hx, hb, hml, hown, hts, hK, hA⟩ := id C
  have hown : s.vm.findClass RX11 = some m.cls := hown
  have C : zCx p c cX11_within s _ RX11 m 3 A s.heap D g := C
  have hl : lv_has ls 3 [(0, .int x0), (1, .int x1), (2, .int x2)] := hl
  unfold fX11_within at h
  refine lv_iload_n hx hb dX11_within_0 rfl (lv_at hl 0 rfl) ?_
  refine lv_iload_n hx hb dX11_within_1 rfl (lv_at hl 1 rfl) ?_
  refine lv_icmp_lt (tgt := 14) hx hb dX11_within_2 (by decide) (fun t1 => ?_) (fun t1 => ?_)
  · rw [if_pos t1] at h
    refine lv_iconst (v := 0) hx hb dX11_within_14 (by decide) ?_
    subst h
    exact hret _ _ _ _ hw zb0 dX11_within_15
  · rw [if_neg t1] at h
    refine lv_iload_n hx hb dX11_within_5 rfl (lv_at hl 0 rfl) ?_
    refine lv_iload_n hx hb dX11_within_6 rfl (lv_at hl 2 rfl) ?_
    refine lv_icmp_gt (tgt := 14) hx hb dX11_within_7 (by decide) (fun t2 => ?_) (fun t2 => ?_)
    · rw [if_pos t2] at h
      refine lv_iconst (v := 0) hx hb dX11_within_14 (by decide) ?_
      subst h
      exact hret _ _ _ _ hw zb0 dX11_within_15
    · rw [if_neg t2] at h
      refine lv_iconst (v := 1) hx hb dX11_within_10 (by decide) ?_
      refine lv_goto (tgt := 15) hx hb dX11_within_11 (by decide) ?_
      subst h
      exact hret _ _ _ _ hw zb1 dX11_within_15
theorem hX11_has : yX11_has.cls ≠ "java/lang/invoke/MethodHandle" ∧ yX11_has.cls ≠ "java/lang/invoke/VarHandle" ∧ (parseMethodDescriptor yX11_has.desc).map (fun d => d.parameters.length) = some 2 := by decide +kernel
set_option maxHeartbeats 4000000 in
set_option maxRecDepth 100000 in
theorem kX11_has (l : Launch) (D : va_G) (g : zG) (ad : Nat → Nat) (σ : zSt) (x0 : Int32) (x1 : Int32) (o : Int32) (h : fX11_has x0 x1 = o) : zMi l D g 1 ad yX11_has (Cond.code yX11_has cX11_has 2 (some .boolean) :: zws) (zRm 0) [.int x0, .int x1] σ o σ := by
  refine z_enter_i (by decide) (Nat.le_of_ble_eq_true rfl) ?_
  intro p e s m below meth c A ls Q C hw hl hret
  obtain ⟨hx, hb, hml, hown, hts, hK, hA⟩ := id C
  have hown : s.vm.findClass RX11 = some m.cls := hown
  have C : zCx p c cX11_has s _ RX11 m 2 A s.heap D g := C
  have hl : lv_has ls 2 [(0, .int x0), (1, .int x1)] := hl
  unfold fX11_has at h
  refine lv_iload_n hx hb dX11_has_0 rfl (lv_at hl 0 rfl) ?_
  refine lv_iload_n hx hb dX11_has_1 rfl (lv_at hl 1 rfl) ?_
  refine lv_ishr hx hb dX11_has_2 ?_
  refine lv_iconst (v := 1) hx hb dX11_has_3 (by decide) ?_
  refine lv_iand hx hb dX11_has_4 ?_
  refine lv_iconst (v := 1) hx hb dX11_has_5 (by decide) ?_
  refine lv_icmp_ne (tgt := 13) hx hb dX11_has_6 (by decide) (fun t1 => ?_) (fun t1 => ?_)
  · rw [if_neg t1] at h
    refine lv_iconst (v := 0) hx hb dX11_has_13 (by decide) ?_
    subst h
    exact hret _ _ _ _ hw zb0 dX11_has_14
  · rw [if_pos t1] at h
    refine lv_iconst (v := 1) hx hb dX11_has_9 (by decide) ?_
    refine lv_goto (tgt := 14) hx hb dX11_has_10 (by decide) ?_
    subst h
    exact hret _ _ _ _ hw zb1 dX11_has_14
theorem hX11_isWhich : yX11_isWhich.cls ≠ "java/lang/invoke/MethodHandle" ∧ yX11_isWhich.cls ≠ "java/lang/invoke/VarHandle" ∧ (parseMethodDescriptor yX11_isWhich.desc).map (fun d => d.parameters.length) = some 1 := by decide +kernel
set_option maxHeartbeats 4000000 in
set_option maxRecDepth 100000 in
theorem kX11_isWhich (l : Launch) (D : va_G) (g : zG) (ad : Nat → Nat) (σ : zSt) (x0 : Int32) (o : Int32) (h : fX11_isWhich x0 = o) : zMi l D g 1 ad yX11_isWhich (Cond.code yX11_isWhich cX11_isWhich 1 (some .boolean) :: zws) (zRm 1) [.int x0] σ o σ := by
  refine z_enter_i (by decide) (Nat.le_of_ble_eq_true rfl) ?_
  intro p e s m below meth c A ls Q C hw hl hret
  obtain ⟨hx, hb, hml, hown, hts, hK, hA⟩ := id C
  have hown : s.vm.findClass RX11 = some m.cls := hown
  have C : zCx p c cX11_isWhich s _ RX11 m 1 A s.heap D g := C
  have hl : lv_has ls 1 [(0, .int x0)] := hl
  unfold fX11_isWhich at h
  refine lv_iload_n hx hb dX11_isWhich_0 rfl (lv_at hl 0 rfl) ?_
  refine lv_iconst (v := 0) hx hb dX11_isWhich_1 (by decide) ?_
  refine lv_iconst (v := 1) hx hb dX11_isWhich_2 (by decide) ?_
  refine z_cSi (As := [.int x0, .int (0 : Int32), .int (1 : Int32)]) (rest := []) ⟨hx, hb, hml, hown, hts⟩ hK hw hA (kX11_within l D g ad σ x0 (0 : Int32) (1 : Int32) _ rfl) (zcwS 3 hts zgoodIn zw_930 zw_931 zw_64 zw_932 rfl rfl hX11_within ⟨Nat.le_of_ble_eq_true rfl, Nat.le_of_ble_eq_true rfl⟩) rfl hl.1 rfl (Nat.le_of_ble_eq_true rfl) dX11_isWhich_3 ⟨Nat.zero_le _, Nat.zero_le _⟩ (fun H locs hw => ?_)
  subst h
  exact hret _ _ _ _ hw (zbX11_within _ _ _) dX11_isWhich_6
set_option maxHeartbeats 4000000 in
set_option maxRecDepth 100000 in
theorem wX11_share_6 {p : Program} {l : Launch} {e : Env} {s : State} {m : MethodId} {args : Array Value} {below : List Frame} {meth : Method} {c : Code} {A : Nat → Prop} {H0 : Heap} {Q : State → Prop} {D : va_G} {g : zG} {ad : Nat → Nat} (C : zCx p c cX11_share s args RX11 m 11 A H0 D g) (σ : zSt) (x0 : Int64) (x2 : Int64) (x4 : Int32) (n : Nat) (a : (Int64 × Int64)) (b : (Int64 × Int64)) (h : zLp (fun a => bX11_share_6 x0 x2 x4 a.1 a.2) n a = some b) (hk : ∀ (H : Heap) (locs : List Loc) (ls : Array Slot), zH D g 1 ad A H0 σ H locs → lv_has ls 11 [(0, .long x0), (2, .long x2), (4, .int x4), (5, .long b.1), (7, .long b.2)] → W p l e (zRm 0) s m args below meth c H locs 0 0 Q (F0 m 31 ls [])) : ∀ (H : Heap) (locs : List Loc) (ls : Array Slot), zH D g 1 ad A H0 σ H locs → lv_has ls 11 [(0, .long x0), (2, .long x2), (4, .int x4), (5, .long a.1), (7, .long a.2)] → W p l e (zRm 0) s m args below meth c H locs 0 0 Q (F0 m 6 ls []) := by
  obtain ⟨hx, hb, hml, hown, hts, hK, hA⟩ := id C
  refine zLp_walk (P := fun (a : (Int64 × Int64)) => ∀ (H : Heap) (locs : List Loc) (ls : Array Slot), zH D g 1 ad A H0 σ H locs → lv_has ls 11 [(0, .long x0), (2, .long x2), (4, .int x4), (5, .long a.1), (7, .long a.2)] → W p l e (zRm 0) s m args below meth c H locs 0 0 Q (F0 m 6 ls [])) (E := fun (b' : (Int64 × Int64)) => b' = b) ?_ n a b h rfl
  intro a r h hn he H locs ls hw hl
  obtain ⟨x5, x7⟩ := a
  have h : bX11_share_6 x0 x2 x4 x5 x7 = some r := h
  have hl : lv_has ls 11 [(0, .long x0), (2, .long x2), (4, .int x4), (5, .long x5), (7, .long x7)] := hl
  have hw : zH D g 1 ad A H0 σ H locs := hw
  unfold bX11_share_6 at h
  refine lv_lload hx hb dX11_share_6 (lv_at hl 4 rfl) ?_
  refine lv_lconst (v := 0) hx hb dX11_share_8 (by decide) ?_
  refine z_lceq (tgt := 31) hx hb dX11_share_9 dX11_share_10 (by decide) (fun t1 => ?_) (fun t1 => ?_)
  · rw [if_pos t1] at h
    obtain rfl := Option.some.inj h
    obtain rfl := he _ rfl
    exact hk _ _ _ hw (lv_sub hl [0, 1, 2, 3, 4] rfl)
  · rw [if_neg t1] at h
    refine lv_lload hx hb dX11_share_13 (lv_at hl 3 rfl) ?_
    refine lv_lload hx hb dX11_share_15 (lv_at hl 4 rfl) ?_
    obtain ⟨v2, e3, h⟩ := zbind h
    refine z_lrem hx hb e3 dX11_share_17 ?_
    refine lv_lstore (lv' := [(9, .long v2), (0, .long x0), (2, .long x2), (4, .int x4), (5, .long x5), (7, .long x7)]) hx hb dX11_share_18 hl (by decide) rfl (fun ls hl => ?_)
    refine lv_lload hx hb dX11_share_20 (lv_at hl 5 rfl) ?_
    refine lv_lstore (lv' := [(5, .long x7), (9, .long v2), (0, .long x0), (2, .long x2), (4, .int x4), (7, .long x7)]) hx hb dX11_share_22 hl (by decide) rfl (fun ls hl => ?_)
    refine lv_lload hx hb dX11_share_24 (lv_at hl 1 rfl) ?_
    refine lv_lstore (lv' := [(7, .long v2), (5, .long x7), (9, .long v2), (0, .long x0), (2, .long x2), (4, .int x4)]) hx hb dX11_share_26 hl (by decide) rfl (fun ls hl => ?_)
    refine lv_goto (tgt := 6) hx hb dX11_share_28 (by decide) ?_
    obtain rfl := Option.some.inj h
    exact hn _ rfl _ _ _ hw (lv_sub hl [3, 4, 5, 1, 0] rfl)
theorem hX11_share : yX11_share.cls ≠ "java/lang/invoke/MethodHandle" ∧ yX11_share.cls ≠ "java/lang/invoke/VarHandle" ∧ (parseMethodDescriptor yX11_share.desc).map (fun d => d.parameters.length) = some 3 := by decide +kernel
set_option maxHeartbeats 4000000 in
set_option maxRecDepth 100000 in
theorem kX11_share (l : Launch) (D : va_G) (g : zG) (ad : Nat → Nat) (σ : zSt) (x0 : Int64) (x2 : Int64) (x4 : Int32) (o : Int64) (h : fX11_share x0 x2 x4 = some o) : zMl l D g 1 ad yX11_share (Cond.code yX11_share cX11_share 11 (some .long) :: zws) (zRm 0) [.long x0, .long x2, .int x4] σ o σ := by
  refine z_enter_l (by decide) (Nat.le_of_ble_eq_true rfl) ?_
  intro p e s m below meth c A ls Q C hw hl hret
  obtain ⟨hx, hb, hml, hown, hts, hK, hA⟩ := id C
  have hown : s.vm.findClass RX11 = some m.cls := hown
  have C : zCx p c cX11_share s _ RX11 m 11 A s.heap D g := C
  have hl : lv_has ls 11 [(0, .long x0), (2, .long x2), (4, .int x4)] := hl
  unfold fX11_share at h
  refine lv_lload_n hx hb dX11_share_0 rfl (lv_at hl 0 rfl) ?_
  refine lv_lstore (lv' := [(5, .long x0), (0, .long x0), (2, .long x2), (4, .int x4)]) hx hb dX11_share_1 hl (by decide) rfl (fun ls hl => ?_)
  refine lv_lload_n hx hb dX11_share_3 rfl (lv_at hl 2 rfl) ?_
  refine lv_lstore (lv' := [(7, .long x2), (5, .long x0), (0, .long x0), (2, .long x2), (4, .int x4)]) hx hb dX11_share_4 hl (by decide) rfl (fun ls hl => ?_)
  obtain ⟨b1, e2, h⟩ := zbind h
  refine wX11_share_6 C σ x0 x2 x4 zFU (x0, x2) b1 e2 (fun H locs ls hw hl => ?_) _ _ _ hw (lv_sub hl [2, 3, 4, 1, 0] rfl)
  have hl : lv_has ls 11 [(0, .long x0), (2, .long x2), (4, .int x4), (5, .long b1.1), (7, .long b1.2)] := hl
  refine lv_iload hx hb dX11_share_31 (lv_at hl 2 rfl) ?_
  refine lv_if_ne (tgt := 43) hx hb dX11_share_33 (by decide) (fun t3 => ?_) (fun t3 => ?_)
  · rw [if_neg t3] at h
    refine lv_lload_n hx hb dX11_share_43 rfl (lv_at hl 1 rfl) ?_
    refine lv_lload hx hb dX11_share_44 (lv_at hl 3 rfl) ?_
    obtain ⟨v4, e5, h⟩ := zbind h
    refine z_ldiv hx hb e5 dX11_share_46 ?_
    obtain rfl := Option.some.inj h
    exact hret _ _ _ _ hw dX11_share_47
  · rw [if_pos t3] at h
    refine lv_lload_n hx hb dX11_share_36 rfl (lv_at hl 0 rfl) ?_
    refine lv_lload hx hb dX11_share_37 (lv_at hl 3 rfl) ?_
    obtain ⟨v6, e7, h⟩ := zbind h
    refine z_ldiv hx hb e7 dX11_share_39 ?_
    refine lv_goto (tgt := 47) hx hb dX11_share_40 (by decide) ?_
    obtain rfl := Option.some.inj h
    exact hret _ _ _ _ hw dX11_share_47
theorem hX11_isSheet : yX11_isSheet.cls ≠ "java/lang/invoke/MethodHandle" ∧ yX11_isSheet.cls ≠ "java/lang/invoke/VarHandle" ∧ (parseMethodDescriptor yX11_isSheet.desc).map (fun d => d.parameters.length) = some 1 := by decide +kernel
set_option maxHeartbeats 4000000 in
set_option maxRecDepth 100000 in
theorem kX11_isSheet (l : Launch) (D : va_G) (g : zG) (ad : Nat → Nat) (σ : zSt) (x0 : Int32) (o : Int32) (h : fX11_isSheet x0 = o) : zMi l D g 1 ad yX11_isSheet (Cond.code yX11_isSheet cX11_isSheet 1 (some .boolean) :: zws) (zRm 1) [.int x0] σ o σ := by
  refine z_enter_i (by decide) (Nat.le_of_ble_eq_true rfl) ?_
  intro p e s m below meth c A ls Q C hw hl hret
  obtain ⟨hx, hb, hml, hown, hts, hK, hA⟩ := id C
  have hown : s.vm.findClass RX11 = some m.cls := hown
  have C : zCx p c cX11_isSheet s _ RX11 m 1 A s.heap D g := C
  have hl : lv_has ls 1 [(0, .int x0)] := hl
  unfold fX11_isSheet at h
  refine lv_iload_n hx hb dX11_isSheet_0 rfl (lv_at hl 0 rfl) ?_
  refine lv_iconst (v := 0) hx hb dX11_isSheet_1 (by decide) ?_
  refine lv_iconst (v := 3) hx hb dX11_isSheet_2 (by decide) ?_
  refine z_cSi (As := [.int x0, .int (0 : Int32), .int (3 : Int32)]) (rest := []) ⟨hx, hb, hml, hown, hts⟩ hK hw hA (kX11_within l D g ad σ x0 (0 : Int32) (3 : Int32) _ rfl) (zcwS 3 hts zgoodIn zw_930 zw_931 zw_64 zw_932 rfl rfl hX11_within ⟨Nat.le_of_ble_eq_true rfl, Nat.le_of_ble_eq_true rfl⟩) rfl hl.1 rfl (Nat.le_of_ble_eq_true rfl) dX11_isSheet_3 ⟨Nat.zero_le _, Nat.zero_le _⟩ (fun H locs hw => ?_)
  subst h
  exact hret _ _ _ _ hw (zbX11_within _ _ _) dX11_isSheet_6
theorem hX11_isSort : yX11_isSort.cls ≠ "java/lang/invoke/MethodHandle" ∧ yX11_isSort.cls ≠ "java/lang/invoke/VarHandle" ∧ (parseMethodDescriptor yX11_isSort.desc).map (fun d => d.parameters.length) = some 1 := by decide +kernel
set_option maxHeartbeats 4000000 in
set_option maxRecDepth 100000 in
theorem kX11_isSort (l : Launch) (D : va_G) (g : zG) (ad : Nat → Nat) (σ : zSt) (x0 : Int32) (o : Int32) (h : fX11_isSort x0 = o) : zMi l D g 1 ad yX11_isSort (Cond.code yX11_isSort cX11_isSort 1 (some .boolean) :: zws) (zRm 1) [.int x0] σ o σ := by
  refine z_enter_i (by decide) (Nat.le_of_ble_eq_true rfl) ?_
  intro p e s m below meth c A ls Q C hw hl hret
  obtain ⟨hx, hb, hml, hown, hts, hK, hA⟩ := id C
  have hown : s.vm.findClass RX11 = some m.cls := hown
  have C : zCx p c cX11_isSort s _ RX11 m 1 A s.heap D g := C
  have hl : lv_has ls 1 [(0, .int x0)] := hl
  unfold fX11_isSort at h
  refine lv_iload_n hx hb dX11_isSort_0 rfl (lv_at hl 0 rfl) ?_
  refine lv_iconst (v := 0) hx hb dX11_isSort_1 (by decide) ?_
  refine lv_iconst (v := 2) hx hb dX11_isSort_2 (by decide) ?_
  refine z_cSi (As := [.int x0, .int (0 : Int32), .int (2 : Int32)]) (rest := []) ⟨hx, hb, hml, hown, hts⟩ hK hw hA (kX11_within l D g ad σ x0 (0 : Int32) (2 : Int32) _ rfl) (zcwS 3 hts zgoodIn zw_930 zw_931 zw_64 zw_932 rfl rfl hX11_within ⟨Nat.le_of_ble_eq_true rfl, Nat.le_of_ble_eq_true rfl⟩) rfl hl.1 rfl (Nat.le_of_ble_eq_true rfl) dX11_isSort_3 ⟨Nat.zero_le _, Nat.zero_le _⟩ (fun H locs hw => ?_)
  subst h
  exact hret _ _ _ _ hw (zbX11_within _ _ _) dX11_isSort_6
theorem hX11_against : yX11_against.cls = RX11 ∧ yX11_against.cls ≠ "java/lang/invoke/MethodHandle" ∧ yX11_against.cls ≠ "java/lang/invoke/VarHandle" ∧ (parseMethodDescriptor yX11_against.desc).map (fun d => d.parameters.length) = some 4 := by decide +kernel
set_option maxHeartbeats 4000000 in
set_option maxRecDepth 100000 in
theorem kX11_against (l : Launch) (D : va_G) (g : zG) (ad : Nat → Nat) (σ : zSt) (x1 : Int32) (x2 : Int32) (x3 : Int32) (x4 : Int32) (o : Int32) (h : fX11_against σ x1 x2 x3 x4 = some o) : zMi l D g 1 ad yX11_against (Cond.code yX11_against cX11_against 5 (some .int) :: zws) (zRm 0) [.ref (ad 0), .int x1, .int x2, .int x3, .int x4] σ o σ := by
  refine z_enter_i (by decide) (Nat.le_of_ble_eq_true rfl) ?_
  intro p e s m below meth c A ls Q C hw hl hret
  obtain ⟨hx, hb, hml, hown, hts, hK, hA⟩ := id C
  have hown : s.vm.findClass RX11 = some m.cls := hown
  have C : zCx p c cX11_against s _ RX11 m 5 A s.heap D g := C
  have hl : lv_has ls 5 [(0, .ref (ad 0)), (1, .int x1), (2, .int x2), (3, .int x3), (4, .int x4)] := hl
  unfold fX11_against at h
  refine lv_aload_n hx hb dX11_against_0 rfl (lv_at hl 0 rfl) ?_
  refine z_getc hx hb hts zin_X11 hown hK hw zF1_0_2 (hts _ zw_840) dX11_against_1 ?_
  refine lv_iload_n hx hb dX11_against_4 rfl (lv_at hl 1 rfl) ?_
  obtain ⟨v1, e2, h⟩ := zbind h
  refine z_iald hx hb hK hw e2 dX11_against_5 ?_
  refine lv_bipush (v := (-9)) hx hb dX11_against_6 (by decide) ?_
  refine lv_icmp_eq (tgt := 23) hx hb dX11_against_8 (by decide) (fun t3 => ?_) (fun t3 => ?_)
  · rw [if_pos t3] at h
    refine lv_aload_n hx hb dX11_against_23 rfl (lv_at hl 0 rfl) ?_
    refine z_getc hx hb hts zin_X11 hown hK hw zF1_0_2 (hts _ zw_840) dX11_against_24 ?_
    refine lv_iload_n hx hb dX11_against_27 rfl (lv_at hl 1 rfl) ?_
    obtain ⟨v4, e5, h⟩ := zbind h
    refine z_iald hx hb hK hw e5 dX11_against_28 ?_
    refine lv_bipush (v := (-9)) hx hb dX11_against_29 (by decide) ?_
    refine lv_icmp_ne (tgt := 36) hx hb dX11_against_31 (by decide) (fun t6 => ?_) (fun t6 => ?_)
    · rw [if_neg t6] at h
      refine lv_iload hx hb dX11_against_36 (lv_at hl 4 rfl) ?_
      refine lv_if_ge (tgt := 43) hx hb dX11_against_38 (by decide) (fun t7 => ?_) (fun t7 => ?_)
      · rw [if_pos t7] at h
        refine lv_iload_n hx hb dX11_against_43 rfl (lv_at hl 3 rfl) ?_
        refine lv_if_lt (tgt := 70) hx hb dX11_against_44 (by decide) (fun t8 => ?_) (fun t8 => ?_)
        · rw [if_pos t8] at h
          refine lv_iconst (v := 3) hx hb dX11_against_70 (by decide) ?_
          refine lv_goto (tgt := 75) hx hb dX11_against_71 (by decide) ?_
          obtain rfl := Option.some.inj h
          exact hret _ _ _ _ hw rfl dX11_against_75
        · rw [if_neg t8] at h
          refine lv_iload_n hx hb dX11_against_47 rfl (lv_at hl 3 rfl) ?_
          refine lv_aload_n hx hb dX11_against_48 rfl (lv_at hl 0 rfl) ?_
          refine z_getc hx hb hts zin_X11 hown hK hw zF1_0_3 (hts _ zw_841) dX11_against_49 ?_
          refine lv_iload_n hx hb dX11_against_52 rfl (lv_at hl 1 rfl) ?_
          obtain ⟨v9, e10, h⟩ := zbind h
          refine z_iald hx hb hK hw e10 dX11_against_53 ?_
          refine lv_icmp_gt (tgt := 70) hx hb dX11_against_54 (by decide) (fun t11 => ?_) (fun t11 => ?_)
          · rw [if_pos t11] at h
            refine lv_iconst (v := 3) hx hb dX11_against_70 (by decide) ?_
            refine lv_goto (tgt := 75) hx hb dX11_against_71 (by decide) ?_
            obtain rfl := Option.some.inj h
            exact hret _ _ _ _ hw rfl dX11_against_75
          · rw [if_neg t11] at h
            refine lv_iload hx hb dX11_against_57 (lv_at hl 4 rfl) ?_
            refine lv_aload_n hx hb dX11_against_59 rfl (lv_at hl 0 rfl) ?_
            refine z_getc hx hb hts zin_X11 hown hK hw zF1_0_3 (hts _ zw_841) dX11_against_60 ?_
            refine lv_iload_n hx hb dX11_against_63 rfl (lv_at hl 1 rfl) ?_
            obtain ⟨v12, e13, h⟩ := zbind h
            refine z_iald hx hb hK hw e13 dX11_against_64 ?_
            refine lv_iload_n hx hb dX11_against_65 rfl (lv_at hl 3 rfl) ?_
            refine lv_isub hx hb dX11_against_66 ?_
            refine lv_icmp_le (tgt := 74) hx hb dX11_against_67 (by decide) (fun t14 => ?_) (fun t14 => ?_)
            · rw [if_pos t14] at h
              refine lv_iconst (v := 0) hx hb dX11_against_74 (by decide) ?_
              obtain rfl := Option.some.inj h
              exact hret _ _ _ _ hw rfl dX11_against_75
            · rw [if_neg t14] at h
              refine lv_iconst (v := 3) hx hb dX11_against_70 (by decide) ?_
              refine lv_goto (tgt := 75) hx hb dX11_against_71 (by decide) ?_
              obtain rfl := Option.some.inj h
              exact hret _ _ _ _ hw rfl dX11_against_75
      · rw [if_neg t7] at h
        refine lv_iconst (v := 4) hx hb dX11_against_41 (by decide) ?_
        obtain rfl := Option.some.inj h
        exact hret _ _ _ _ hw rfl dX11_against_42
    · rw [if_pos t6] at h
      refine lv_iconst (v := 1) hx hb dX11_against_34 (by decide) ?_
      obtain rfl := Option.some.inj h
      exact hret _ _ _ _ hw rfl dX11_against_35
  · rw [if_neg t3] at h
    refine lv_aload_n hx hb dX11_against_11 rfl (lv_at hl 0 rfl) ?_
    refine z_getc hx hb hts zin_X11 hown hK hw zF1_0_2 (hts _ zw_840) dX11_against_12 ?_
    refine lv_iload_n hx hb dX11_against_15 rfl (lv_at hl 1 rfl) ?_
    obtain ⟨v15, e16, h⟩ := zbind h
    refine z_iald hx hb hK hw e16 dX11_against_16 ?_
    refine lv_iload_n hx hb dX11_against_17 rfl (lv_at hl 2 rfl) ?_
    refine lv_icmp_eq (tgt := 23) hx hb dX11_against_18 (by decide) (fun t17 => ?_) (fun t17 => ?_)
    · rw [if_pos t17] at h
      refine lv_aload_n hx hb dX11_against_23 rfl (lv_at hl 0 rfl) ?_
      refine z_getc hx hb hts zin_X11 hown hK hw zF1_0_2 (hts _ zw_840) dX11_against_24 ?_
      refine lv_iload_n hx hb dX11_against_27 rfl (lv_at hl 1 rfl) ?_
      obtain ⟨v18, e19, h⟩ := zbind h
      refine z_iald hx hb hK hw e19 dX11_against_28 ?_
      refine lv_bipush (v := (-9)) hx hb dX11_against_29 (by decide) ?_
      refine lv_icmp_ne (tgt := 36) hx hb dX11_against_31 (by decide) (fun t20 => ?_) (fun t20 => ?_)
      · rw [if_neg t20] at h
        refine lv_iload hx hb dX11_against_36 (lv_at hl 4 rfl) ?_
        refine lv_if_ge (tgt := 43) hx hb dX11_against_38 (by decide) (fun t21 => ?_) (fun t21 => ?_)
        · rw [if_pos t21] at h
          refine lv_iload_n hx hb dX11_against_43 rfl (lv_at hl 3 rfl) ?_
          refine lv_if_lt (tgt := 70) hx hb dX11_against_44 (by decide) (fun t22 => ?_) (fun t22 => ?_)
          · rw [if_pos t22] at h
            refine lv_iconst (v := 3) hx hb dX11_against_70 (by decide) ?_
            refine lv_goto (tgt := 75) hx hb dX11_against_71 (by decide) ?_
            obtain rfl := Option.some.inj h
            exact hret _ _ _ _ hw rfl dX11_against_75
          · rw [if_neg t22] at h
            refine lv_iload_n hx hb dX11_against_47 rfl (lv_at hl 3 rfl) ?_
            refine lv_aload_n hx hb dX11_against_48 rfl (lv_at hl 0 rfl) ?_
            refine z_getc hx hb hts zin_X11 hown hK hw zF1_0_3 (hts _ zw_841) dX11_against_49 ?_
            refine lv_iload_n hx hb dX11_against_52 rfl (lv_at hl 1 rfl) ?_
            obtain ⟨v23, e24, h⟩ := zbind h
            refine z_iald hx hb hK hw e24 dX11_against_53 ?_
            refine lv_icmp_gt (tgt := 70) hx hb dX11_against_54 (by decide) (fun t25 => ?_) (fun t25 => ?_)
            · rw [if_pos t25] at h
              refine lv_iconst (v := 3) hx hb dX11_against_70 (by decide) ?_
              refine lv_goto (tgt := 75) hx hb dX11_against_71 (by decide) ?_
              obtain rfl := Option.some.inj h
              exact hret _ _ _ _ hw rfl dX11_against_75
            · rw [if_neg t25] at h
              refine lv_iload hx hb dX11_against_57 (lv_at hl 4 rfl) ?_
              refine lv_aload_n hx hb dX11_against_59 rfl (lv_at hl 0 rfl) ?_
              refine z_getc hx hb hts zin_X11 hown hK hw zF1_0_3 (hts _ zw_841) dX11_against_60 ?_
              refine lv_iload_n hx hb dX11_against_63 rfl (lv_at hl 1 rfl) ?_
              obtain ⟨v26, e27, h⟩ := zbind h
              refine z_iald hx hb hK hw e27 dX11_against_64 ?_
              refine lv_iload_n hx hb dX11_against_65 rfl (lv_at hl 3 rfl) ?_
              refine lv_isub hx hb dX11_against_66 ?_
              refine lv_icmp_le (tgt := 74) hx hb dX11_against_67 (by decide) (fun t28 => ?_) (fun t28 => ?_)
              · rw [if_pos t28] at h
                refine lv_iconst (v := 0) hx hb dX11_against_74 (by decide) ?_
                obtain rfl := Option.some.inj h
                exact hret _ _ _ _ hw rfl dX11_against_75
              · rw [if_neg t28] at h
                refine lv_iconst (v := 3) hx hb dX11_against_70 (by decide) ?_
                refine lv_goto (tgt := 75) hx hb dX11_against_71 (by decide) ?_
                obtain rfl := Option.some.inj h
                exact hret _ _ _ _ hw rfl dX11_against_75
        · rw [if_neg t21] at h
          refine lv_iconst (v := 4) hx hb dX11_against_41 (by decide) ?_
          obtain rfl := Option.some.inj h
          exact hret _ _ _ _ hw rfl dX11_against_42
      · rw [if_pos t20] at h
        refine lv_iconst (v := 1) hx hb dX11_against_34 (by decide) ?_
        obtain rfl := Option.some.inj h
        exact hret _ _ _ _ hw rfl dX11_against_35
    · rw [if_neg t17] at h
      refine lv_iconst (v := 2) hx hb dX11_against_21 (by decide) ?_
      obtain rfl := Option.some.inj h
      exact hret _ _ _ _ hw rfl dX11_against_22
theorem hX11_isWord : yX11_isWord.cls = RX11 ∧ yX11_isWord.cls ≠ "java/lang/invoke/MethodHandle" ∧ yX11_isWord.cls ≠ "java/lang/invoke/VarHandle" ∧ (parseMethodDescriptor yX11_isWord.desc).map (fun d => d.parameters.length) = some 1 := by decide +kernel
set_option maxHeartbeats 4000000 in
set_option maxRecDepth 100000 in
theorem kX11_isWord (l : Launch) (D : va_G) (g : zG) (ad : Nat → Nat) (σ : zSt) (x1 : Int32) (o : Int32) (h : fX11_isWord σ x1 = o) : zMi l D g 1 ad yX11_isWord (Cond.code yX11_isWord cX11_isWord 2 (some .boolean) :: zws) (zRm 0) [.ref (ad 0), .int x1] σ o σ := by
  refine z_enter_i (by decide) (Nat.le_of_ble_eq_true rfl) ?_
  intro p e s m below meth c A ls Q C hw hl hret
  obtain ⟨hx, hb, hml, hown, hts, hK, hA⟩ := id C
  have hown : s.vm.findClass RX11 = some m.cls := hown
  have C : zCx p c cX11_isWord s _ RX11 m 2 A s.heap D g := C
  have hl : lv_has ls 2 [(0, .ref (ad 0)), (1, .int x1)] := hl
  unfold fX11_isWord at h
  refine lv_iload_n hx hb dX11_isWord_0 rfl (lv_at hl 1 rfl) ?_
  refine lv_if_lt (tgt := 16) hx hb dX11_isWord_1 (by decide) (fun t1 => ?_) (fun t1 => ?_)
  · rw [if_pos t1] at h
    refine lv_iconst (v := 0) hx hb dX11_isWord_16 (by decide) ?_
    subst h
    exact hret _ _ _ _ hw zb0 dX11_isWord_17
  · rw [if_neg t1] at h
    refine lv_iload_n hx hb dX11_isWord_4 rfl (lv_at hl 1 rfl) ?_
    refine lv_aload_n hx hb dX11_isWord_5 rfl (lv_at hl 0 rfl) ?_
    refine z_geti hx hb hts zin_X11 hown hK hw zF1_0_5 (hts _ zw_843) dX11_isWord_6 ?_
    refine lv_icmp_ge (tgt := 16) hx hb dX11_isWord_9 (by decide) (fun t2 => ?_) (fun t2 => ?_)
    · rw [if_pos t2] at h
      refine lv_iconst (v := 0) hx hb dX11_isWord_16 (by decide) ?_
      subst h
      exact hret _ _ _ _ hw zb0 dX11_isWord_17
    · rw [if_neg t2] at h
      refine lv_iconst (v := 1) hx hb dX11_isWord_12 (by decide) ?_
      refine lv_goto (tgt := 17) hx hb dX11_isWord_13 (by decide) ?_
      subst h
      exact hret _ _ _ _ hw zb1 dX11_isWord_17
theorem hX11_isEnd : yX11_isEnd.cls = RX11 ∧ yX11_isEnd.cls ≠ "java/lang/invoke/MethodHandle" ∧ yX11_isEnd.cls ≠ "java/lang/invoke/VarHandle" ∧ (parseMethodDescriptor yX11_isEnd.desc).map (fun d => d.parameters.length) = some 1 := by decide +kernel
set_option maxHeartbeats 4000000 in
set_option maxRecDepth 100000 in
theorem kX11_isEnd (l : Launch) (D : va_G) (g : zG) (ad : Nat → Nat) (σ : zSt) (x1 : Int32) (o : Int32) (h : fX11_isEnd σ x1 = o) : zMi l D g 1 ad yX11_isEnd (Cond.code yX11_isEnd cX11_isEnd 2 (some .boolean) :: zws) (zRm 0) [.ref (ad 0), .int x1] σ o σ := by
  refine z_enter_i (by decide) (Nat.le_of_ble_eq_true rfl) ?_
  intro p e s m below meth c A ls Q C hw hl hret
  obtain ⟨hx, hb, hml, hown, hts, hK, hA⟩ := id C
  have hown : s.vm.findClass RX11 = some m.cls := hown
  have C : zCx p c cX11_isEnd s _ RX11 m 2 A s.heap D g := C
  have hl : lv_has ls 2 [(0, .ref (ad 0)), (1, .int x1)] := hl
  unfold fX11_isEnd at h
  refine lv_iload_n hx hb dX11_isEnd_0 rfl (lv_at hl 1 rfl) ?_
  refine lv_if_lt (tgt := 23) hx hb dX11_isEnd_1 (by decide) (fun t1 => ?_) (fun t1 => ?_)
  · rw [if_pos t1] at h
    refine lv_iconst (v := 0) hx hb dX11_isEnd_23 (by decide) ?_
    subst h
    exact hret _ _ _ _ hw zb0 dX11_isEnd_24
  · rw [if_neg t1] at h
    refine lv_iload_n hx hb dX11_isEnd_4 rfl (lv_at hl 1 rfl) ?_
    refine lv_aload_n hx hb dX11_isEnd_5 rfl (lv_at hl 0 rfl) ?_
    refine z_geti hx hb hts zin_X11 hown hK hw zF1_0_5 (hts _ zw_843) dX11_isEnd_6 ?_
    refine lv_icmp_gt (tgt := 23) hx hb dX11_isEnd_9 (by decide) (fun t2 => ?_) (fun t2 => ?_)
    · rw [if_pos t2] at h
      refine lv_iconst (v := 0) hx hb dX11_isEnd_23 (by decide) ?_
      subst h
      exact hret _ _ _ _ hw zb0 dX11_isEnd_24
    · rw [if_neg t2] at h
      refine lv_aload_n hx hb dX11_isEnd_12 rfl (lv_at hl 0 rfl) ?_
      refine z_geti hx hb hts zin_X11 hown hK hw zF1_0_5 (hts _ zw_843) dX11_isEnd_13 ?_
      refine lv_if_le (tgt := 23) hx hb dX11_isEnd_16 (by decide) (fun t3 => ?_) (fun t3 => ?_)
      · rw [if_pos t3] at h
        refine lv_iconst (v := 0) hx hb dX11_isEnd_23 (by decide) ?_
        subst h
        exact hret _ _ _ _ hw zb0 dX11_isEnd_24
      · rw [if_neg t3] at h
        refine lv_iconst (v := 1) hx hb dX11_isEnd_19 (by decide) ?_
        refine lv_goto (tgt := 24) hx hb dX11_isEnd_20 (by decide) ?_
        subst h
        exact hret _ _ _ _ hw zb1 dX11_isEnd_24
theorem hX11_isWay : yX11_isWay.cls ≠ "java/lang/invoke/MethodHandle" ∧ yX11_isWay.cls ≠ "java/lang/invoke/VarHandle" ∧ (parseMethodDescriptor yX11_isWay.desc).map (fun d => d.parameters.length) = some 1 := by decide +kernel
set_option maxHeartbeats 4000000 in
set_option maxRecDepth 100000 in
theorem kX11_isWay (l : Launch) (D : va_G) (g : zG) (ad : Nat → Nat) (σ : zSt) (x0 : Int32) (o : Int32) (h : fX11_isWay x0 = o) : zMi l D g 1 ad yX11_isWay (Cond.code yX11_isWay cX11_isWay 1 (some .boolean) :: zws) (zRm 1) [.int x0] σ o σ := by
  refine z_enter_i (by decide) (Nat.le_of_ble_eq_true rfl) ?_
  intro p e s m below meth c A ls Q C hw hl hret
  obtain ⟨hx, hb, hml, hown, hts, hK, hA⟩ := id C
  have hown : s.vm.findClass RX11 = some m.cls := hown
  have C : zCx p c cX11_isWay s _ RX11 m 1 A s.heap D g := C
  have hl : lv_has ls 1 [(0, .int x0)] := hl
  unfold fX11_isWay at h
  refine lv_iload_n hx hb dX11_isWay_0 rfl (lv_at hl 0 rfl) ?_
  refine lv_iconst (v := 0) hx hb dX11_isWay_1 (by decide) ?_
  refine lv_iconst (v := 1) hx hb dX11_isWay_2 (by decide) ?_
  refine z_cSi (As := [.int x0, .int (0 : Int32), .int (1 : Int32)]) (rest := []) ⟨hx, hb, hml, hown, hts⟩ hK hw hA (kX11_within l D g ad σ x0 (0 : Int32) (1 : Int32) _ rfl) (zcwS 3 hts zgoodIn zw_930 zw_931 zw_64 zw_932 rfl rfl hX11_within ⟨Nat.le_of_ble_eq_true rfl, Nat.le_of_ble_eq_true rfl⟩) rfl hl.1 rfl (Nat.le_of_ble_eq_true rfl) dX11_isWay_3 ⟨Nat.zero_le _, Nat.zero_le _⟩ (fun H locs hw => ?_)
  subst h
  exact hret _ _ _ _ hw (zbX11_within _ _ _) dX11_isWay_6
theorem hX11_digitAt : yX11_digitAt.cls = RX11 ∧ yX11_digitAt.cls ≠ "java/lang/invoke/MethodHandle" ∧ yX11_digitAt.cls ≠ "java/lang/invoke/VarHandle" ∧ (parseMethodDescriptor yX11_digitAt.desc).map (fun d => d.parameters.length) = some 2 := by decide +kernel
set_option maxHeartbeats 4000000 in
set_option maxRecDepth 100000 in
theorem kX11_digitAt (l : Launch) (D : va_G) (g : zG) (ad : Nat → Nat) (σ : zSt) (x1 : Int32) (x2 : Int32) (o : Int32) (h : fX11_digitAt σ x1 x2 = some o) : zMi l D g 1 ad yX11_digitAt (Cond.code yX11_digitAt cX11_digitAt 3 (some .int) :: zws) (zRm 1) [.ref (ad 0), .int x1, .int x2] σ o σ := by
  refine z_enter_i (by decide) (Nat.le_of_ble_eq_true rfl) ?_
  intro p e s m below meth c A ls Q C hw hl hret
  obtain ⟨hx, hb, hml, hown, hts, hK, hA⟩ := id C
  have hown : s.vm.findClass RX11 = some m.cls := hown
  have C : zCx p c cX11_digitAt s _ RX11 m 3 A s.heap D g := C
  have hl : lv_has ls 3 [(0, .ref (ad 0)), (1, .int x1), (2, .int x2)] := hl
  unfold fX11_digitAt at h
  refine lv_iload_n hx hb dX11_digitAt_0 rfl (lv_at hl 1 rfl) ?_
  refine lv_iload_n hx hb dX11_digitAt_1 rfl (lv_at hl 2 rfl) ?_
  refine lv_icmp_ge (tgt := 33) hx hb dX11_digitAt_2 (by decide) (fun t1 => ?_) (fun t1 => ?_)
  · rw [if_pos t1] at h
    refine lv_bipush (v := (-9)) hx hb dX11_digitAt_33 (by decide) ?_
    obtain rfl := Option.some.inj h
    exact hret _ _ _ _ hw rfl dX11_digitAt_35
  · rw [if_neg t1] at h
    refine lv_aload_n hx hb dX11_digitAt_5 rfl (lv_at hl 0 rfl) ?_
    refine z_getc hx hb hts zin_X11 hown hK hw zF1_0_4 (hts _ zw_842) dX11_digitAt_6 ?_
    refine lv_iload_n hx hb dX11_digitAt_9 rfl (lv_at hl 1 rfl) ?_
    obtain ⟨v2, e3, h⟩ := zbind h
    refine z_iald hx hb hK hw e3 dX11_digitAt_10 ?_
    refine lv_bipush (v := 48) hx hb dX11_digitAt_11 (by decide) ?_
    refine lv_bipush (v := 57) hx hb dX11_digitAt_13 (by decide) ?_
    refine z_cSi (As := [.int v2, .int (48 : Int32), .int (57 : Int32)]) (rest := []) ⟨hx, hb, hml, hown, hts⟩ hK hw hA (kX11_within l D g ad σ v2 (48 : Int32) (57 : Int32) _ rfl) (zcwS 3 hts zgoodIn zw_930 zw_931 zw_64 zw_932 rfl rfl hX11_within ⟨Nat.le_of_ble_eq_true rfl, Nat.le_of_ble_eq_true rfl⟩) rfl hl.1 rfl (Nat.le_of_ble_eq_true rfl) dX11_digitAt_15 ⟨Nat.zero_le _, Nat.zero_le _⟩ (fun H locs hw => ?_)
    refine lv_if_eq (tgt := 33) hx hb dX11_digitAt_18 (by decide) (fun t4 => ?_) (fun t4 => ?_)
    · rw [if_pos t4] at h
      refine lv_bipush (v := (-9)) hx hb dX11_digitAt_33 (by decide) ?_
      obtain rfl := Option.some.inj h
      exact hret _ _ _ _ hw rfl dX11_digitAt_35
    · rw [if_neg t4] at h
      refine lv_aload_n hx hb dX11_digitAt_21 rfl (lv_at hl 0 rfl) ?_
      refine z_getc hx hb hts zin_X11 hown hK hw zF1_0_4 (hts _ zw_842) dX11_digitAt_22 ?_
      refine lv_iload_n hx hb dX11_digitAt_25 rfl (lv_at hl 1 rfl) ?_
      obtain ⟨v5, e6, h⟩ := zbind h
      refine z_iald hx hb hK hw e6 dX11_digitAt_26 ?_
      refine lv_bipush (v := 48) hx hb dX11_digitAt_27 (by decide) ?_
      refine lv_isub hx hb dX11_digitAt_29 ?_
      refine lv_goto (tgt := 35) hx hb dX11_digitAt_30 (by decide) ?_
      obtain rfl := Option.some.inj h
      exact hret _ _ _ _ hw rfl dX11_digitAt_35
theorem hX11_isCode : yX11_isCode.cls = RX11 ∧ yX11_isCode.cls ≠ "java/lang/invoke/MethodHandle" ∧ yX11_isCode.cls ≠ "java/lang/invoke/VarHandle" ∧ (parseMethodDescriptor yX11_isCode.desc).map (fun d => d.parameters.length) = some 2 := by decide +kernel
set_option maxHeartbeats 4000000 in
set_option maxRecDepth 100000 in
theorem kX11_isCode (l : Launch) (D : va_G) (g : zG) (ad : Nat → Nat) (σ : zSt) (x1 : Int32) (x2 : Int32) (o : Int32) (h : fX11_isCode σ x1 x2 = some o) : zMi l D g 1 ad yX11_isCode (Cond.code yX11_isCode cX11_isCode 3 (some .boolean) :: zws) (zRm 0) [.ref (ad 0), .int x1, .int x2] σ o σ := by
  refine z_enter_i (by decide) (Nat.le_of_ble_eq_true rfl) ?_
  intro p e s m below meth c A ls Q C hw hl hret
  obtain ⟨hx, hb, hml, hown, hts, hK, hA⟩ := id C
  have hown : s.vm.findClass RX11 = some m.cls := hown
  have C : zCx p c cX11_isCode s _ RX11 m 3 A s.heap D g := C
  have hl : lv_has ls 3 [(0, .ref (ad 0)), (1, .int x1), (2, .int x2)] := hl
  unfold fX11_isCode at h
  refine lv_aload_n hx hb dX11_isCode_0 rfl (lv_at hl 0 rfl) ?_
  refine z_geti hx hb hts zin_X11 hown hK hw zF1_0_7 (hts _ zw_845) dX11_isCode_1 ?_
  refine lv_iload_n hx hb dX11_isCode_4 rfl (lv_at hl 2 rfl) ?_
  refine lv_icmp_ge (tgt := 25) hx hb dX11_isCode_5 (by decide) (fun t1 => ?_) (fun t1 => ?_)
  · rw [if_pos t1] at h
    refine lv_iconst (v := 0) hx hb dX11_isCode_25 (by decide) ?_
    obtain rfl := Option.some.inj h
    exact hret _ _ _ _ hw zb0 dX11_isCode_26
  · rw [if_neg t1] at h
    refine lv_aload_n hx hb dX11_isCode_8 rfl (lv_at hl 0 rfl) ?_
    refine z_getc hx hb hts zin_X11 hown hK hw zF1_0_4 (hts _ zw_842) dX11_isCode_9 ?_
    refine lv_aload_n hx hb dX11_isCode_12 rfl (lv_at hl 0 rfl) ?_
    refine z_geti hx hb hts zin_X11 hown hK hw zF1_0_7 (hts _ zw_845) dX11_isCode_13 ?_
    obtain ⟨v2, e3, h⟩ := zbind h
    refine z_iald hx hb hK hw e3 dX11_isCode_16 ?_
    refine lv_iload_n hx hb dX11_isCode_17 rfl (lv_at hl 1 rfl) ?_
    refine lv_icmp_ne (tgt := 25) hx hb dX11_isCode_18 (by decide) (fun t4 => ?_) (fun t4 => ?_)
    · rw [if_neg t4] at h
      refine lv_iconst (v := 0) hx hb dX11_isCode_25 (by decide) ?_
      obtain rfl := Option.some.inj h
      exact hret _ _ _ _ hw zb0 dX11_isCode_26
    · rw [if_pos t4] at h
      refine lv_iconst (v := 1) hx hb dX11_isCode_21 (by decide) ?_
      refine lv_goto (tgt := 26) hx hb dX11_isCode_22 (by decide) ?_
      obtain rfl := Option.some.inj h
      exact hret _ _ _ _ hw zb1 dX11_isCode_26
set_option maxHeartbeats 4000000 in
set_option maxRecDepth 100000 in
theorem wX11_readRows_37 {p : Program} {l : Launch} {e : Env} {s : State} {m : MethodId} {args : Array Value} {below : List Frame} {meth : Method} {c : Code} {A : Nat → Prop} {H0 : Heap} {Q : State → Prop} {D : va_G} {g : zG} {ad : Nat → Nat} (C : zCx p c cX11_readRows s args RX11 m 8 A H0 D g) (x1 : Int32) (x2 : Int32) (x3 : Int32) (x4 : Int32) (n : Nat) (a : (Int32 × Int32 × zSt)) (b : ((Int32 × Int32 × zSt) ⊕ (Int32 × zSt))) (h : zLp (fun a => bX11_readRows_37 x1 x2 x3 x4 a.1 a.2.1 a.2.2) n a = some b) (hk1 : ∀ a, b = .inl a → ∀ (H : Heap) (locs : List Loc) (ls : Array Slot), zH D g 1 ad A H0 a.2.2 H locs → lv_has ls 8 [(0, .ref (ad 0)), (1, .int x1), (2, .int x2), (3, .int x3), (4, .int x4), (5, .int a.1), (6, .int a.2.1)] → W p l e (zRm 2) s m args below meth c H locs 0 0 Q (F0 m 129 ls [])) (hk2 : ∀ r, b = .inr r → ∀ (H : Heap) (locs : List Loc) (pc : Nat) (ls : Array Slot), zH D g 1 ad A H0 r.2 H locs → narrow .boolean (.int r.1) = .int r.1 → decode cX11_readRows pc = .ok (.ireturn, 1) → W p l e (zRm 2) s m args below meth c H locs 0 0 Q (F0 m pc ls [.int r.1])) : ∀ (H : Heap) (locs : List Loc) (ls : Array Slot), zH D g 1 ad A H0 a.2.2 H locs → lv_has ls 8 [(0, .ref (ad 0)), (1, .int x1), (2, .int x2), (3, .int x3), (4, .int x4), (5, .int a.1), (6, .int a.2.1)] → W p l e (zRm 2) s m args below meth c H locs 0 0 Q (F0 m 37 ls []) := by
  obtain ⟨hx, hb, hml, hown, hts, hK, hA⟩ := id C
  refine zLp_walk (P := fun (a : (Int32 × Int32 × zSt)) => ∀ (H : Heap) (locs : List Loc) (ls : Array Slot), zH D g 1 ad A H0 a.2.2 H locs → lv_has ls 8 [(0, .ref (ad 0)), (1, .int x1), (2, .int x2), (3, .int x3), (4, .int x4), (5, .int a.1), (6, .int a.2.1)] → W p l e (zRm 2) s m args below meth c H locs 0 0 Q (F0 m 37 ls [])) (E := fun (b' : ((Int32 × Int32 × zSt) ⊕ (Int32 × zSt))) => b' = b) ?_ n a b h rfl
  intro a r h hn he H locs ls hw hl
  obtain ⟨x5, x6, σ⟩ := a
  have h : bX11_readRows_37 x1 x2 x3 x4 x5 x6 σ = some r := h
  have hl : lv_has ls 8 [(0, .ref (ad 0)), (1, .int x1), (2, .int x2), (3, .int x3), (4, .int x4), (5, .int x5), (6, .int x6)] := hl
  have hw : zH D g 1 ad A H0 σ H locs := hw
  unfold bX11_readRows_37 at h
  refine lv_iload hx hb dX11_readRows_37 (lv_at hl 6 rfl) ?_
  refine lv_iload_n hx hb dX11_readRows_39 rfl (lv_at hl 2 rfl) ?_
  refine lv_icmp_ge (tgt := 129) hx hb dX11_readRows_40 (by decide) (fun t1 => ?_) (fun t1 => ?_)
  · rw [if_pos t1] at h
    obtain rfl := Option.some.inj h
    obtain rfl := he _ rfl
    exact hk1 _ rfl _ _ _ hw (lv_sub hl [0, 1, 2, 3, 4, 5, 6] rfl)
  · rw [if_neg t1] at h
    refine lv_aload_n hx hb dX11_readRows_43 rfl (lv_at hl 0 rfl) ?_
    refine lv_aload_n hx hb dX11_readRows_44 rfl (lv_at hl 0 rfl) ?_
    refine z_geti hx hb hts zin_X11 hown hK hw zF1_0_7 (hts _ zw_845) dX11_readRows_45 ?_
    refine lv_iload_n hx hb dX11_readRows_48 rfl (lv_at hl 3 rfl) ?_
    obtain ⟨r2, e3, h⟩ := zbind h
    refine z_cVi (As := [.int (zI σ 0 7), .int x3]) (rest := []) ⟨hx, hb, hml, hown, hts⟩ hK hw hA (kX11_digitAt l D g ad σ (zI σ 0 7) x3 r2 e3) (zcwV 2 hts zgoodIn zw_952 zw_954 zw_28 zw_64 zw_955 rfl rfl hX11_digitAt ⟨Nat.le_of_ble_eq_true rfl, Nat.le_of_ble_eq_true rfl⟩) zO1_0 rfl hl.1 rfl (Nat.le_of_ble_eq_true rfl) dX11_readRows_49 ⟨Nat.zero_le _, Nat.zero_le _⟩ (fun H locs hw => ?_)
    refine lv_istore (lv' := [(7, .int r2), (0, .ref (ad 0)), (1, .int x1), (2, .int x2), (3, .int x3), (4, .int x4), (5, .int x5), (6, .int x6)]) hx hb dX11_readRows_52 hl (by decide) rfl (fun ls hl => ?_)
    refine lv_iload hx hb dX11_readRows_54 (lv_at hl 0 rfl) ?_
    refine lv_bipush (v := (-9)) hx hb dX11_readRows_56 (by decide) ?_
    refine lv_icmp_eq (tgt := 87) hx hb dX11_readRows_58 (by decide) (fun t4 => ?_) (fun t4 => ?_)
    · rw [if_pos t4] at h
      refine lv_iconst (v := 0) hx hb dX11_readRows_87 (by decide) ?_
      obtain rfl := Option.some.inj h
      obtain rfl := he _ rfl
      exact hk2 _ rfl _ _ _ _ hw zb0 dX11_readRows_88
    · rw [if_neg t4] at h
      refine lv_iload hx hb dX11_readRows_61 (lv_at hl 6 rfl) ?_
      refine lv_iload hx hb dX11_readRows_63 (lv_at hl 0 rfl) ?_
      refine lv_iadd hx hb dX11_readRows_65 ?_
      refine lv_bipush (v := 12) hx hb dX11_readRows_66 (by decide) ?_
      refine lv_icmp_gt (tgt := 87) hx hb dX11_readRows_68 (by decide) (fun t5 => ?_) (fun t5 => ?_)
      · rw [if_pos t5] at h
        refine lv_iconst (v := 0) hx hb dX11_readRows_87 (by decide) ?_
        obtain rfl := Option.some.inj h
        obtain rfl := he _ rfl
        exact hk2 _ rfl _ _ _ _ hw zb0 dX11_readRows_88
      · rw [if_neg t5] at h
        refine lv_iload hx hb dX11_readRows_71 (lv_at hl 7 rfl) ?_
        refine lv_iload_n hx hb dX11_readRows_73 rfl (lv_at hl 3 rfl) ?_
        refine lv_iconst (v := 1) hx hb dX11_readRows_74 (by decide) ?_
        refine lv_isub hx hb dX11_readRows_75 ?_
        refine lv_icmp_ne (tgt := 89) hx hb dX11_readRows_76 (by decide) (fun t6 => ?_) (fun t6 => ?_)
        · rw [if_neg t6] at h
          refine lv_aload_n hx hb dX11_readRows_89 rfl (lv_at hl 1 rfl) ?_
          refine z_getc hx hb hts zin_X11 hown hK hw zF1_0_10 (hts _ zw_848) dX11_readRows_90 ?_
          refine lv_iload_n hx hb dX11_readRows_93 rfl (lv_at hl 2 rfl) ?_
          refine lv_bipush (v := 6) hx hb dX11_readRows_94 (by decide) ?_
          refine lv_iload hx hb dX11_readRows_96 (lv_at hl 5 rfl) ?_
          refine lv_imul hx hb dX11_readRows_98 ?_
          refine lv_iadd hx hb dX11_readRows_99 ?_
          refine lv_iload hx hb dX11_readRows_100 (lv_at hl 7 rfl) ?_
          refine lv_iadd hx hb dX11_readRows_102 ?_
          refine lv_iload hx hb dX11_readRows_103 (lv_at hl 0 rfl) ?_
          obtain ⟨s7, e8, h⟩ := zbind h
          refine z_iast hx hb hK hw e8 dX11_readRows_105 (fun H locs hw => ?_)
          refine lv_iload hx hb dX11_readRows_106 (lv_at hl 6 rfl) ?_
          refine lv_iload hx hb dX11_readRows_108 (lv_at hl 0 rfl) ?_
          refine lv_iadd hx hb dX11_readRows_110 ?_
          refine lv_istore (lv' := [(5, .int (x5 + r2)), (7, .int r2), (0, .ref (ad 0)), (1, .int x1), (2, .int x2), (3, .int x3), (4, .int x4), (6, .int x6)]) hx hb dX11_readRows_111 hl (by decide) rfl (fun ls hl => ?_)
          refine lv_aload_n hx hb dX11_readRows_113 rfl (lv_at hl 2 rfl) ?_
          refine lv_dup hx hb dX11_readRows_114 rfl ?_
          refine z_geti hx hb hts zin_X11 hown hK hw zF1_0_7 (hts _ zw_845) dX11_readRows_115 ?_
          refine lv_iconst (v := 1) hx hb dX11_readRows_118 (by decide) ?_
          refine lv_iadd hx hb dX11_readRows_119 ?_
          refine z_puti hx hb hts zin_X11 tyX11_ok nmX11 hown hK hw zF1_0_7 (hts _ zw_845) zY1_0_7 dX11_readRows_120 (fun H locs hw => ?_)
          refine lv_iinc (v := x6 + 1) (lv' := [(6, .int (x6 + 1)), (5, .int (x5 + r2)), (7, .int r2), (0, .ref (ad 0)), (1, .int x1), (2, .int x2), (3, .int x3), (4, .int x4)]) hx hb dX11_readRows_123 hl (k := 7) rfl rfl (by decide) rfl (fun ls hl => ?_)
          refine lv_goto (tgt := 37) hx hb dX11_readRows_126 (by decide) ?_
          obtain rfl := Option.some.inj h
          exact hn _ rfl _ _ _ hw (lv_sub hl [3, 4, 5, 6, 7, 1, 0] rfl)
        · rw [if_pos t6] at h
          refine lv_iload hx hb dX11_readRows_79 (lv_at hl 6 rfl) ?_
          refine lv_iload hx hb dX11_readRows_81 (lv_at hl 0 rfl) ?_
          refine lv_iadd hx hb dX11_readRows_83 ?_
          refine lv_if_ne (tgt := 89) hx hb dX11_readRows_84 (by decide) (fun t9 => ?_) (fun t9 => ?_)
          · rw [if_neg t9] at h
            refine lv_aload_n hx hb dX11_readRows_89 rfl (lv_at hl 1 rfl) ?_
            refine z_getc hx hb hts zin_X11 hown hK hw zF1_0_10 (hts _ zw_848) dX11_readRows_90 ?_
            refine lv_iload_n hx hb dX11_readRows_93 rfl (lv_at hl 2 rfl) ?_
            refine lv_bipush (v := 6) hx hb dX11_readRows_94 (by decide) ?_
            refine lv_iload hx hb dX11_readRows_96 (lv_at hl 5 rfl) ?_
            refine lv_imul hx hb dX11_readRows_98 ?_
            refine lv_iadd hx hb dX11_readRows_99 ?_
            refine lv_iload hx hb dX11_readRows_100 (lv_at hl 7 rfl) ?_
            refine lv_iadd hx hb dX11_readRows_102 ?_
            refine lv_iload hx hb dX11_readRows_103 (lv_at hl 0 rfl) ?_
            obtain ⟨s10, e11, h⟩ := zbind h
            refine z_iast hx hb hK hw e11 dX11_readRows_105 (fun H locs hw => ?_)
            refine lv_iload hx hb dX11_readRows_106 (lv_at hl 6 rfl) ?_
            refine lv_iload hx hb dX11_readRows_108 (lv_at hl 0 rfl) ?_
            refine lv_iadd hx hb dX11_readRows_110 ?_
            refine lv_istore (lv' := [(5, .int (x5 + r2)), (7, .int r2), (0, .ref (ad 0)), (1, .int x1), (2, .int x2), (3, .int x3), (4, .int x4), (6, .int x6)]) hx hb dX11_readRows_111 hl (by decide) rfl (fun ls hl => ?_)
            refine lv_aload_n hx hb dX11_readRows_113 rfl (lv_at hl 2 rfl) ?_
            refine lv_dup hx hb dX11_readRows_114 rfl ?_
            refine z_geti hx hb hts zin_X11 hown hK hw zF1_0_7 (hts _ zw_845) dX11_readRows_115 ?_
            refine lv_iconst (v := 1) hx hb dX11_readRows_118 (by decide) ?_
            refine lv_iadd hx hb dX11_readRows_119 ?_
            refine z_puti hx hb hts zin_X11 tyX11_ok nmX11 hown hK hw zF1_0_7 (hts _ zw_845) zY1_0_7 dX11_readRows_120 (fun H locs hw => ?_)
            refine lv_iinc (v := x6 + 1) (lv' := [(6, .int (x6 + 1)), (5, .int (x5 + r2)), (7, .int r2), (0, .ref (ad 0)), (1, .int x1), (2, .int x2), (3, .int x3), (4, .int x4)]) hx hb dX11_readRows_123 hl (k := 7) rfl rfl (by decide) rfl (fun ls hl => ?_)
            refine lv_goto (tgt := 37) hx hb dX11_readRows_126 (by decide) ?_
            obtain rfl := Option.some.inj h
            exact hn _ rfl _ _ _ hw (lv_sub hl [3, 4, 5, 6, 7, 1, 0] rfl)
          · rw [if_pos t9] at h
            refine lv_iconst (v := 0) hx hb dX11_readRows_87 (by decide) ?_
            obtain rfl := Option.some.inj h
            obtain rfl := he _ rfl
            exact hk2 _ rfl _ _ _ _ hw zb0 dX11_readRows_88
set_option maxHeartbeats 4000000 in
set_option maxRecDepth 100000 in
theorem wX11_readRows_3 {p : Program} {l : Launch} {e : Env} {s : State} {m : MethodId} {args : Array Value} {below : List Frame} {meth : Method} {c : Code} {A : Nat → Prop} {H0 : Heap} {Q : State → Prop} {D : va_G} {g : zG} {ad : Nat → Nat} (C : zCx p c cX11_readRows s args RX11 m 8 A H0 D g) (x1 : Int32) (x2 : Int32) (x3 : Int32) (n : Nat) (a : (Int32 × zSt)) (b : ((Int32 × zSt) ⊕ (Int32 × zSt))) (h : zLp (fun a => bX11_readRows_3 x1 x2 x3 a.1 a.2) n a = some b) (hk1 : ∀ a, b = .inl a → ∀ (H : Heap) (locs : List Loc) (ls : Array Slot), zH D g 1 ad A H0 a.2 H locs → lv_has ls 8 [(0, .ref (ad 0)), (1, .int x1), (2, .int x2), (3, .int x3), (4, .int a.1)] → W p l e (zRm 2) s m args below meth c H locs 0 0 Q (F0 m 135 ls [])) (hk2 : ∀ r, b = .inr r → ∀ (H : Heap) (locs : List Loc) (pc : Nat) (ls : Array Slot), zH D g 1 ad A H0 r.2 H locs → narrow .boolean (.int r.1) = .int r.1 → decode cX11_readRows pc = .ok (.ireturn, 1) → W p l e (zRm 2) s m args below meth c H locs 0 0 Q (F0 m pc ls [.int r.1])) : ∀ (H : Heap) (locs : List Loc) (ls : Array Slot), zH D g 1 ad A H0 a.2 H locs → lv_has ls 8 [(0, .ref (ad 0)), (1, .int x1), (2, .int x2), (3, .int x3), (4, .int a.1)] → W p l e (zRm 2) s m args below meth c H locs 0 0 Q (F0 m 3 ls []) := by
  obtain ⟨hx, hb, hml, hown, hts, hK, hA⟩ := id C
  refine zLp_walk (P := fun (a : (Int32 × zSt)) => ∀ (H : Heap) (locs : List Loc) (ls : Array Slot), zH D g 1 ad A H0 a.2 H locs → lv_has ls 8 [(0, .ref (ad 0)), (1, .int x1), (2, .int x2), (3, .int x3), (4, .int a.1)] → W p l e (zRm 2) s m args below meth c H locs 0 0 Q (F0 m 3 ls [])) (E := fun (b' : ((Int32 × zSt) ⊕ (Int32 × zSt))) => b' = b) ?_ n a b h rfl
  intro a r h hn he H locs ls hw hl
  obtain ⟨x4, σ⟩ := a
  have h : bX11_readRows_3 x1 x2 x3 x4 σ = some r := h
  have hl : lv_has ls 8 [(0, .ref (ad 0)), (1, .int x1), (2, .int x2), (3, .int x3), (4, .int x4)] := hl
  have hw : zH D g 1 ad A H0 σ H locs := hw
  unfold bX11_readRows_3 at h
  refine lv_iload hx hb dX11_readRows_3 (lv_at hl 4 rfl) ?_
  refine lv_iload_n hx hb dX11_readRows_5 rfl (lv_at hl 2 rfl) ?_
  refine lv_icmp_ge (tgt := 135) hx hb dX11_readRows_6 (by decide) (fun t1 => ?_) (fun t1 => ?_)
  · rw [if_pos t1] at h
    obtain rfl := Option.some.inj h
    obtain rfl := he _ rfl
    exact hk1 _ rfl _ _ _ hw (lv_sub hl [0, 1, 2, 3, 4] rfl)
  · rw [if_neg t1] at h
    refine lv_aload_n hx hb dX11_readRows_9 rfl (lv_at hl 0 rfl) ?_
    refine lv_bipush (v := 59) hx hb dX11_readRows_10 (by decide) ?_
    refine lv_iload_n hx hb dX11_readRows_12 rfl (lv_at hl 3 rfl) ?_
    obtain ⟨r2, e3, h⟩ := zbind h
    refine z_cVi (As := [.int (59 : Int32), .int x3]) (rest := []) ⟨hx, hb, hml, hown, hts⟩ hK hw hA (kX11_isCode l D g ad σ (59 : Int32) x3 r2 e3) (zcwV 2 hts zgoodIn zw_948 zw_950 zw_27 zw_64 zw_951 rfl rfl hX11_isCode ⟨Nat.le_of_ble_eq_true rfl, Nat.le_of_ble_eq_true rfl⟩) zO1_0 rfl hl.1 rfl (Nat.le_of_ble_eq_true rfl) dX11_readRows_13 ⟨Nat.zero_le _, Nat.zero_le _⟩ (fun H locs hw => ?_)
    refine lv_if_ne (tgt := 21) hx hb dX11_readRows_16 (by decide) (fun t4 => ?_) (fun t4 => ?_)
    · rw [if_neg t4] at h
      refine lv_aload_n hx hb dX11_readRows_21 rfl (lv_at hl 0 rfl) ?_
      refine lv_dup hx hb dX11_readRows_22 rfl ?_
      refine z_geti hx hb hts zin_X11 hown hK hw zF1_0_7 (hts _ zw_845) dX11_readRows_23 ?_
      refine lv_iconst (v := 1) hx hb dX11_readRows_26 (by decide) ?_
      refine lv_iadd hx hb dX11_readRows_27 ?_
      refine z_puti hx hb hts zin_X11 tyX11_ok nmX11 hown hK hw zF1_0_7 (hts _ zw_845) zY1_0_7 dX11_readRows_28 (fun H locs hw => ?_)
      refine lv_iconst (v := 0) hx hb dX11_readRows_31 (by decide) ?_
      refine lv_istore (lv' := [(5, .int (0 : Int32)), (0, .ref (ad 0)), (1, .int x1), (2, .int x2), (3, .int x3), (4, .int x4)]) hx hb dX11_readRows_32 hl (by decide) rfl (fun ls hl => ?_)
      refine lv_iconst (v := 0) hx hb dX11_readRows_34 (by decide) ?_
      refine lv_istore (lv' := [(6, .int (0 : Int32)), (5, .int (0 : Int32)), (0, .ref (ad 0)), (1, .int x1), (2, .int x2), (3, .int x3), (4, .int x4)]) hx hb dX11_readRows_35 hl (by decide) rfl (fun ls hl => ?_)
      obtain ⟨b5, e6, h⟩ := zbind h
      refine wX11_readRows_37 C x1 x2 x3 x4 zFU ((0 : Int32), (0 : Int32), zwI σ 0 7 ((zI σ 0 7) + (1 : Int32))) b5 e6 (fun a7 hb H locs ls hw hl => ?_) (fun r8 hb H locs pc ls hw hnn hd => ?_) _ _ _ hw (lv_sub hl [2, 3, 4, 5, 6, 1, 0] rfl)
      · subst hb
        rw [zel_l] at h
        have hl : lv_has ls 8 [(0, .ref (ad 0)), (1, .int x1), (2, .int x2), (3, .int x3), (4, .int x4), (5, .int a7.1), (6, .int a7.2.1)] := hl
        refine lv_iinc (v := x4 + 1) (lv' := [(4, .int (x4 + 1)), (0, .ref (ad 0)), (1, .int x1), (2, .int x2), (3, .int x3), (5, .int a7.1), (6, .int a7.2.1)]) hx hb dX11_readRows_129 hl (k := 4) rfl rfl (by decide) rfl (fun ls hl => ?_)
        refine lv_goto (tgt := 3) hx hb dX11_readRows_132 (by decide) ?_
        obtain rfl := Option.some.inj h
        exact hn _ rfl _ _ _ hw (lv_sub hl [1, 2, 3, 4, 0] rfl)
      · subst hb
        rw [zel_r] at h
        obtain rfl := Option.some.inj h
        obtain rfl := he _ rfl
        exact hk2 _ rfl _ _ _ _ hw hnn hd
    · rw [if_pos t4] at h
      refine lv_iconst (v := 0) hx hb dX11_readRows_19 (by decide) ?_
      obtain rfl := Option.some.inj h
      obtain rfl := he _ rfl
      exact hk2 _ rfl _ _ _ _ hw zb0 dX11_readRows_20
theorem hX11_readRows : yX11_readRows.cls = RX11 ∧ yX11_readRows.cls ≠ "java/lang/invoke/MethodHandle" ∧ yX11_readRows.cls ≠ "java/lang/invoke/VarHandle" ∧ (parseMethodDescriptor yX11_readRows.desc).map (fun d => d.parameters.length) = some 3 := by decide +kernel
set_option maxHeartbeats 4000000 in
set_option maxRecDepth 100000 in
theorem kX11_readRows (l : Launch) (D : va_G) (g : zG) (ad : Nat → Nat) (σ : zSt) (x1 : Int32) (x2 : Int32) (x3 : Int32) (o : Int32 × zSt) (h : fX11_readRows σ x1 x2 x3 = some o) : zMi l D g 1 ad yX11_readRows (Cond.code yX11_readRows cX11_readRows 8 (some .boolean) :: zws) (zRm 2) [.ref (ad 0), .int x1, .int x2, .int x3] σ o.1 o.2 := by
  refine z_enter_i (by decide) (Nat.le_of_ble_eq_true rfl) ?_
  intro p e s m below meth c A ls Q C hw hl hret
  obtain ⟨hx, hb, hml, hown, hts, hK, hA⟩ := id C
  have hown : s.vm.findClass RX11 = some m.cls := hown
  have C : zCx p c cX11_readRows s _ RX11 m 8 A s.heap D g := C
  have hl : lv_has ls 8 [(0, .ref (ad 0)), (1, .int x1), (2, .int x2), (3, .int x3)] := hl
  unfold fX11_readRows at h
  refine lv_iconst (v := 0) hx hb dX11_readRows_0 (by decide) ?_
  refine lv_istore (lv' := [(4, .int (0 : Int32)), (0, .ref (ad 0)), (1, .int x1), (2, .int x2), (3, .int x3)]) hx hb dX11_readRows_1 hl (by decide) rfl (fun ls hl => ?_)
  obtain ⟨b1, e2, h⟩ := zbind h
  refine wX11_readRows_3 C x1 x2 x3 zFU ((0 : Int32), σ) b1 e2 (fun a3 hb H locs ls hw hl => ?_) (fun r4 hb H locs pc ls hw hnn hd => ?_) _ _ _ hw (lv_sub hl [1, 2, 3, 4, 0] rfl)
  · subst hb
    rw [zel_l] at h
    have hl : lv_has ls 8 [(0, .ref (ad 0)), (1, .int x1), (2, .int x2), (3, .int x3), (4, .int a3.1)] := hl
    refine lv_iconst (v := 1) hx hb dX11_readRows_135 (by decide) ?_
    obtain rfl := Option.some.inj h
    exact hret _ _ _ _ hw zb1 dX11_readRows_136
  · subst hb
    rw [zel_r] at h
    obtain rfl := Option.some.inj h
    exact hret _ _ _ _ hw hnn hd
theorem hX11_readTongues : yX11_readTongues.cls = RX11 ∧ yX11_readTongues.cls ≠ "java/lang/invoke/MethodHandle" ∧ yX11_readTongues.cls ≠ "java/lang/invoke/VarHandle" ∧ (parseMethodDescriptor yX11_readTongues.desc).map (fun d => d.parameters.length) = some 1 := by decide +kernel
set_option maxHeartbeats 4000000 in
set_option maxRecDepth 100000 in
theorem kX11_readTongues (l : Launch) (D : va_G) (g : zG) (ad : Nat → Nat) (σ : zSt) (x1 : Int32) (o : Int32 × zSt) (h : fX11_readTongues σ x1 = some o) : zMi l D g 1 ad yX11_readTongues (Cond.code yX11_readTongues cX11_readTongues 2 (some .boolean) :: zws) (zRm 3) [.ref (ad 0), .int x1] σ o.1 o.2 := by
  refine z_enter_i (by decide) (Nat.le_of_ble_eq_true rfl) ?_
  intro p e s m below meth c A ls Q C hw hl hret
  obtain ⟨hx, hb, hml, hown, hts, hK, hA⟩ := id C
  have hown : s.vm.findClass RX11 = some m.cls := hown
  have C : zCx p c cX11_readTongues s _ RX11 m 2 A s.heap D g := C
  have hl : lv_has ls 2 [(0, .ref (ad 0)), (1, .int x1)] := hl
  unfold fX11_readTongues at h
  refine lv_aload_n hx hb dX11_readTongues_0 rfl (lv_at hl 0 rfl) ?_
  refine lv_bipush (v := 119) hx hb dX11_readTongues_1 (by decide) ?_
  refine lv_iload_n hx hb dX11_readTongues_3 rfl (lv_at hl 1 rfl) ?_
  obtain ⟨r1, e2, h⟩ := zbind h
  refine z_cVi (As := [.int (119 : Int32), .int x1]) (rest := []) ⟨hx, hb, hml, hown, hts⟩ hK hw hA (kX11_isCode l D g ad σ (119 : Int32) x1 r1 e2) (zcwV 2 hts zgoodIn zw_948 zw_950 zw_27 zw_64 zw_951 rfl rfl hX11_isCode ⟨Nat.le_of_ble_eq_true rfl, Nat.le_of_ble_eq_true rfl⟩) zO1_0 rfl hl.1 rfl (Nat.le_of_ble_eq_true rfl) dX11_readTongues_4 ⟨Nat.zero_le _, Nat.zero_le _⟩ (fun H locs hw => ?_)
  refine lv_if_ne (tgt := 12) hx hb dX11_readTongues_7 (by decide) (fun t3 => ?_) (fun t3 => ?_)
  · rw [if_neg t3] at h
    refine lv_aload_n hx hb dX11_readTongues_12 rfl (lv_at hl 0 rfl) ?_
    refine lv_dup hx hb dX11_readTongues_13 rfl ?_
    refine z_geti hx hb hts zin_X11 hown hK hw zF1_0_7 (hts _ zw_845) dX11_readTongues_14 ?_
    refine lv_iconst (v := 1) hx hb dX11_readTongues_17 (by decide) ?_
    refine lv_iadd hx hb dX11_readTongues_18 ?_
    refine z_puti hx hb hts zin_X11 tyX11_ok nmX11 hown hK hw zF1_0_7 (hts _ zw_845) zY1_0_7 dX11_readTongues_19 (fun H locs hw => ?_)
    refine lv_aload_n hx hb dX11_readTongues_22 rfl (lv_at hl 0 rfl) ?_
    refine lv_aload_n hx hb dX11_readTongues_23 rfl (lv_at hl 0 rfl) ?_
    refine lv_aload_n hx hb dX11_readTongues_24 rfl (lv_at hl 0 rfl) ?_
    refine z_geti hx hb hts zin_X11 hown hK hw zF1_0_7 (hts _ zw_845) dX11_readTongues_25 ?_
    refine lv_iload_n hx hb dX11_readTongues_28 rfl (lv_at hl 1 rfl) ?_
    obtain ⟨r4, e5, h⟩ := zbind h
    refine z_cVi (As := [.int (zI (zwI σ 0 7 ((zI σ 0 7) + (1 : Int32))) 0 7), .int x1]) (rest := [.ref (ad 0)]) ⟨hx, hb, hml, hown, hts⟩ hK hw hA (kX11_digitAt l D g ad (zwI σ 0 7 ((zI σ 0 7) + (1 : Int32))) (zI (zwI σ 0 7 ((zI σ 0 7) + (1 : Int32))) 0 7) x1 r4 e5) (zcwV 2 hts zgoodIn zw_952 zw_954 zw_28 zw_64 zw_955 rfl rfl hX11_digitAt ⟨Nat.le_of_ble_eq_true rfl, Nat.le_of_ble_eq_true rfl⟩) zO1_0 rfl hl.1 rfl (Nat.le_of_ble_eq_true rfl) dX11_readTongues_29 ⟨Nat.zero_le _, Nat.zero_le _⟩ (fun H locs hw => ?_)
    refine z_puti hx hb hts zin_X11 tyX11_ok nmX11 hown hK hw zF1_0_8 (hts _ zw_846) zY1_0_8 dX11_readTongues_32 (fun H locs hw => ?_)
    refine lv_aload_n hx hb dX11_readTongues_35 rfl (lv_at hl 0 rfl) ?_
    refine z_geti hx hb hts zin_X11 hown hK hw zF1_0_8 (hts _ zw_846) dX11_readTongues_36 ?_
    refine lv_iconst (v := 2) hx hb dX11_readTongues_39 (by decide) ?_
    refine lv_bipush (v := 6) hx hb dX11_readTongues_40 (by decide) ?_
    refine z_cSi (As := [.int (zI (zwI (zwI σ 0 7 ((zI σ 0 7) + (1 : Int32))) 0 8 r4) 0 8), .int (2 : Int32), .int (6 : Int32)]) (rest := []) ⟨hx, hb, hml, hown, hts⟩ hK hw hA (kX11_within l D g ad (zwI (zwI σ 0 7 ((zI σ 0 7) + (1 : Int32))) 0 8 r4) (zI (zwI (zwI σ 0 7 ((zI σ 0 7) + (1 : Int32))) 0 8 r4) 0 8) (2 : Int32) (6 : Int32) _ rfl) (zcwS 3 hts zgoodIn zw_930 zw_931 zw_64 zw_932 rfl rfl hX11_within ⟨Nat.le_of_ble_eq_true rfl, Nat.le_of_ble_eq_true rfl⟩) rfl hl.1 rfl (Nat.le_of_ble_eq_true rfl) dX11_readTongues_42 ⟨Nat.zero_le _, Nat.zero_le _⟩ (fun H locs hw => ?_)
    refine lv_if_ne (tgt := 50) hx hb dX11_readTongues_45 (by decide) (fun t6 => ?_) (fun t6 => ?_)
    · rw [if_neg t6] at h
      refine lv_aload_n hx hb dX11_readTongues_50 rfl (lv_at hl 0 rfl) ?_
      refine lv_dup hx hb dX11_readTongues_51 rfl ?_
      refine z_geti hx hb hts zin_X11 hown hK hw zF1_0_7 (hts _ zw_845) dX11_readTongues_52 ?_
      refine lv_iconst (v := 1) hx hb dX11_readTongues_55 (by decide) ?_
      refine lv_iadd hx hb dX11_readTongues_56 ?_
      refine z_puti hx hb hts zin_X11 tyX11_ok nmX11 hown hK hw zF1_0_7 (hts _ zw_845) zY1_0_7 dX11_readTongues_57 (fun H locs hw => ?_)
      refine lv_aload_n hx hb dX11_readTongues_60 rfl (lv_at hl 0 rfl) ?_
      refine lv_iconst (v := 0) hx hb dX11_readTongues_61 (by decide) ?_
      refine lv_aload_n hx hb dX11_readTongues_62 rfl (lv_at hl 0 rfl) ?_
      refine z_geti hx hb hts zin_X11 hown hK hw zF1_0_8 (hts _ zw_846) dX11_readTongues_63 ?_
      refine lv_iload_n hx hb dX11_readTongues_66 rfl (lv_at hl 1 rfl) ?_
      obtain ⟨r7, e8, h⟩ := zbind h
      refine z_cVi (As := [.int (0 : Int32), .int (zI (zwI (zwI (zwI σ 0 7 ((zI σ 0 7) + (1 : Int32))) 0 8 r4) 0 7 ((zI (zwI (zwI σ 0 7 ((zI σ 0 7) + (1 : Int32))) 0 8 r4) 0 7) + (1 : Int32))) 0 8), .int x1]) (rest := []) ⟨hx, hb, hml, hown, hts⟩ hK hw hA (kX11_readRows l D g ad (zwI (zwI (zwI σ 0 7 ((zI σ 0 7) + (1 : Int32))) 0 8 r4) 0 7 ((zI (zwI (zwI σ 0 7 ((zI σ 0 7) + (1 : Int32))) 0 8 r4) 0 7) + (1 : Int32))) (0 : Int32) (zI (zwI (zwI (zwI σ 0 7 ((zI σ 0 7) + (1 : Int32))) 0 8 r4) 0 7 ((zI (zwI (zwI σ 0 7 ((zI σ 0 7) + (1 : Int32))) 0 8 r4) 0 7) + (1 : Int32))) 0 8) x1 r7 e8) (zcwV 3 hts zgoodIn zw_956 zw_958 zw_29 zw_64 zw_959 rfl rfl hX11_readRows ⟨Nat.le_of_ble_eq_true rfl, Nat.le_of_ble_eq_true rfl⟩) zO1_0 rfl hl.1 rfl (Nat.le_of_ble_eq_true rfl) dX11_readTongues_67 ⟨Nat.zero_le _, Nat.zero_le _⟩ (fun H locs hw => ?_)
      refine lv_if_ne (tgt := 75) hx hb dX11_readTongues_70 (by decide) (fun t9 => ?_) (fun t9 => ?_)
      · rw [if_neg t9] at h
        refine lv_aload_n hx hb dX11_readTongues_75 rfl (lv_at hl 0 rfl) ?_
        refine lv_bipush (v := 59) hx hb dX11_readTongues_76 (by decide) ?_
        refine lv_iload_n hx hb dX11_readTongues_78 rfl (lv_at hl 1 rfl) ?_
        obtain ⟨r10, e11, h⟩ := zbind h
        refine z_cVi (As := [.int (59 : Int32), .int x1]) (rest := []) ⟨hx, hb, hml, hown, hts⟩ hK hw hA (kX11_isCode l D g ad r7.2 (59 : Int32) x1 r10 e11) (zcwV 2 hts zgoodIn zw_948 zw_950 zw_27 zw_64 zw_951 rfl rfl hX11_isCode ⟨Nat.le_of_ble_eq_true rfl, Nat.le_of_ble_eq_true rfl⟩) zO1_0 rfl hl.1 rfl (Nat.le_of_ble_eq_true rfl) dX11_readTongues_79 ⟨Nat.zero_le _, Nat.zero_le _⟩ (fun H locs hw => ?_)
        refine lv_if_ne (tgt := 87) hx hb dX11_readTongues_82 (by decide) (fun t12 => ?_) (fun t12 => ?_)
        · rw [if_neg t12] at h
          refine lv_aload_n hx hb dX11_readTongues_87 rfl (lv_at hl 0 rfl) ?_
          refine lv_dup hx hb dX11_readTongues_88 rfl ?_
          refine z_geti hx hb hts zin_X11 hown hK hw zF1_0_7 (hts _ zw_845) dX11_readTongues_89 ?_
          refine lv_iconst (v := 1) hx hb dX11_readTongues_92 (by decide) ?_
          refine lv_iadd hx hb dX11_readTongues_93 ?_
          refine z_puti hx hb hts zin_X11 tyX11_ok nmX11 hown hK hw zF1_0_7 (hts _ zw_845) zY1_0_7 dX11_readTongues_94 (fun H locs hw => ?_)
          refine lv_aload_n hx hb dX11_readTongues_97 rfl (lv_at hl 0 rfl) ?_
          refine lv_bipush (v := 98) hx hb dX11_readTongues_98 (by decide) ?_
          refine lv_iload_n hx hb dX11_readTongues_100 rfl (lv_at hl 1 rfl) ?_
          obtain ⟨r13, e14, h⟩ := zbind h
          refine z_cVi (As := [.int (98 : Int32), .int x1]) (rest := []) ⟨hx, hb, hml, hown, hts⟩ hK hw hA (kX11_isCode l D g ad (zwI r7.2 0 7 ((zI r7.2 0 7) + (1 : Int32))) (98 : Int32) x1 r13 e14) (zcwV 2 hts zgoodIn zw_948 zw_950 zw_27 zw_64 zw_951 rfl rfl hX11_isCode ⟨Nat.le_of_ble_eq_true rfl, Nat.le_of_ble_eq_true rfl⟩) zO1_0 rfl hl.1 rfl (Nat.le_of_ble_eq_true rfl) dX11_readTongues_101 ⟨Nat.zero_le _, Nat.zero_le _⟩ (fun H locs hw => ?_)
          refine lv_if_ne (tgt := 109) hx hb dX11_readTongues_104 (by decide) (fun t15 => ?_) (fun t15 => ?_)
          · rw [if_neg t15] at h
            refine lv_aload_n hx hb dX11_readTongues_109 rfl (lv_at hl 0 rfl) ?_
            refine lv_dup hx hb dX11_readTongues_110 rfl ?_
            refine z_geti hx hb hts zin_X11 hown hK hw zF1_0_7 (hts _ zw_845) dX11_readTongues_111 ?_
            refine lv_iconst (v := 1) hx hb dX11_readTongues_114 (by decide) ?_
            refine lv_iadd hx hb dX11_readTongues_115 ?_
            refine z_puti hx hb hts zin_X11 tyX11_ok nmX11 hown hK hw zF1_0_7 (hts _ zw_845) zY1_0_7 dX11_readTongues_116 (fun H locs hw => ?_)
            refine lv_aload_n hx hb dX11_readTongues_119 rfl (lv_at hl 0 rfl) ?_
            refine lv_bipush (v := 36) hx hb dX11_readTongues_120 (by decide) ?_
            refine lv_aload_n hx hb dX11_readTongues_122 rfl (lv_at hl 0 rfl) ?_
            refine z_geti hx hb hts zin_X11 hown hK hw zF1_0_8 (hts _ zw_846) dX11_readTongues_123 ?_
            refine lv_iload_n hx hb dX11_readTongues_126 rfl (lv_at hl 1 rfl) ?_
            obtain ⟨r16, e17, h⟩ := zbind h
            refine z_cVi (As := [.int (36 : Int32), .int (zI (zwI (zwI r7.2 0 7 ((zI r7.2 0 7) + (1 : Int32))) 0 7 ((zI (zwI r7.2 0 7 ((zI r7.2 0 7) + (1 : Int32))) 0 7) + (1 : Int32))) 0 8), .int x1]) (rest := []) ⟨hx, hb, hml, hown, hts⟩ hK hw hA (kX11_readRows l D g ad (zwI (zwI r7.2 0 7 ((zI r7.2 0 7) + (1 : Int32))) 0 7 ((zI (zwI r7.2 0 7 ((zI r7.2 0 7) + (1 : Int32))) 0 7) + (1 : Int32))) (36 : Int32) (zI (zwI (zwI r7.2 0 7 ((zI r7.2 0 7) + (1 : Int32))) 0 7 ((zI (zwI r7.2 0 7 ((zI r7.2 0 7) + (1 : Int32))) 0 7) + (1 : Int32))) 0 8) x1 r16 e17) (zcwV 3 hts zgoodIn zw_956 zw_958 zw_29 zw_64 zw_959 rfl rfl hX11_readRows ⟨Nat.le_of_ble_eq_true rfl, Nat.le_of_ble_eq_true rfl⟩) zO1_0 rfl hl.1 rfl (Nat.le_of_ble_eq_true rfl) dX11_readTongues_127 ⟨Nat.zero_le _, Nat.zero_le _⟩ (fun H locs hw => ?_)
            refine lv_if_eq (tgt := 145) hx hb dX11_readTongues_130 (by decide) (fun t18 => ?_) (fun t18 => ?_)
            · rw [if_pos t18] at h
              refine lv_iconst (v := 0) hx hb dX11_readTongues_145 (by decide) ?_
              obtain rfl := Option.some.inj h
              exact hret _ _ _ _ hw zb0 dX11_readTongues_146
            · rw [if_neg t18] at h
              refine lv_aload_n hx hb dX11_readTongues_133 rfl (lv_at hl 0 rfl) ?_
              refine z_geti hx hb hts zin_X11 hown hK hw zF1_0_7 (hts _ zw_845) dX11_readTongues_134 ?_
              refine lv_iload_n hx hb dX11_readTongues_137 rfl (lv_at hl 1 rfl) ?_
              refine lv_icmp_ne (tgt := 145) hx hb dX11_readTongues_138 (by decide) (fun t19 => ?_) (fun t19 => ?_)
              · rw [if_neg t19] at h
                refine lv_iconst (v := 0) hx hb dX11_readTongues_145 (by decide) ?_
                obtain rfl := Option.some.inj h
                exact hret _ _ _ _ hw zb0 dX11_readTongues_146
              · rw [if_pos t19] at h
                refine lv_iconst (v := 1) hx hb dX11_readTongues_141 (by decide) ?_
                refine lv_goto (tgt := 146) hx hb dX11_readTongues_142 (by decide) ?_
                obtain rfl := Option.some.inj h
                exact hret _ _ _ _ hw zb1 dX11_readTongues_146
          · rw [if_pos t15] at h
            refine lv_iconst (v := 0) hx hb dX11_readTongues_107 (by decide) ?_
            obtain rfl := Option.some.inj h
            exact hret _ _ _ _ hw zb0 dX11_readTongues_108
        · rw [if_pos t12] at h
          refine lv_iconst (v := 0) hx hb dX11_readTongues_85 (by decide) ?_
          obtain rfl := Option.some.inj h
          exact hret _ _ _ _ hw zb0 dX11_readTongues_86
      · rw [if_pos t9] at h
        refine lv_iconst (v := 0) hx hb dX11_readTongues_73 (by decide) ?_
        obtain rfl := Option.some.inj h
        exact hret _ _ _ _ hw zb0 dX11_readTongues_74
    · rw [if_pos t6] at h
      refine lv_iconst (v := 0) hx hb dX11_readTongues_48 (by decide) ?_
      obtain rfl := Option.some.inj h
      exact hret _ _ _ _ hw zb0 dX11_readTongues_49
  · rw [if_pos t3] at h
    refine lv_iconst (v := 0) hx hb dX11_readTongues_10 (by decide) ?_
    obtain rfl := Option.some.inj h
    exact hret _ _ _ _ hw zb0 dX11_readTongues_11
set_option maxHeartbeats 4000000 in
set_option maxRecDepth 100000 in
theorem wX11_tongues_95 {p : Program} {l : Launch} {e : Env} {s : State} {m : MethodId} {args : Array Value} {below : List Frame} {meth : Method} {c : Code} {A : Nat → Prop} {H0 : Heap} {Q : State → Prop} {D : va_G} {g : zG} {ad : Nat → Nat} (C : zCx p c cX11_tongues s args RX11 m 8 A H0 D g)  (n : Nat) (a : (Int32 × zSt)) (b : (Int32 × zSt)) (h : zLp (fun a => bX11_tongues_95 a.1 a.2) n a = some b) (hk : ∀ (H : Heap) (locs : List Loc) (ls : Array Slot), zH D g 1 ad A H0 b.2 H locs → lv_has ls 8 [(0, .ref (ad 0)), (7, .int b.1)] → W p l e (zRm 4) s m args below meth c H locs 0 0 Q (F0 m 122 ls [])) : ∀ (H : Heap) (locs : List Loc) (ls : Array Slot), zH D g 1 ad A H0 a.2 H locs → lv_has ls 8 [(0, .ref (ad 0)), (7, .int a.1)] → W p l e (zRm 4) s m args below meth c H locs 0 0 Q (F0 m 95 ls []) := by
  obtain ⟨hx, hb, hml, hown, hts, hK, hA⟩ := id C
  refine zLp_walk (P := fun (a : (Int32 × zSt)) => ∀ (H : Heap) (locs : List Loc) (ls : Array Slot), zH D g 1 ad A H0 a.2 H locs → lv_has ls 8 [(0, .ref (ad 0)), (7, .int a.1)] → W p l e (zRm 4) s m args below meth c H locs 0 0 Q (F0 m 95 ls [])) (E := fun (b' : (Int32 × zSt)) => b' = b) ?_ n a b h rfl
  intro a r h hn he H locs ls hw hl
  obtain ⟨x7, σ⟩ := a
  have h : bX11_tongues_95 x7 σ = some r := h
  have hl : lv_has ls 8 [(0, .ref (ad 0)), (7, .int x7)] := hl
  have hw : zH D g 1 ad A H0 σ H locs := hw
  unfold bX11_tongues_95 at h
  refine lv_iload hx hb dX11_tongues_95 (lv_at hl 1 rfl) ?_
  refine lv_bipush (v := 72) hx hb dX11_tongues_97 (by decide) ?_
  refine lv_icmp_ge (tgt := 122) hx hb dX11_tongues_99 (by decide) (fun t1 => ?_) (fun t1 => ?_)
  · rw [if_pos t1] at h
    obtain rfl := Option.some.inj h
    obtain rfl := he _ rfl
    exact hk _ _ _ hw (lv_sub hl [0, 1] rfl)
  · rw [if_neg t1] at h
    refine lv_aload_n hx hb dX11_tongues_102 rfl (lv_at hl 0 rfl) ?_
    refine z_getc hx hb hts zin_X11 hown hK hw zF1_0_6 (hts _ zw_844) dX11_tongues_103 ?_
    refine lv_iload hx hb dX11_tongues_106 (lv_at hl 1 rfl) ?_
    refine lv_aload_n hx hb dX11_tongues_108 rfl (lv_at hl 0 rfl) ?_
    refine z_getc hx hb hts zin_X11 hown hK hw zF1_0_10 (hts _ zw_848) dX11_tongues_109 ?_
    refine lv_iload hx hb dX11_tongues_112 (lv_at hl 1 rfl) ?_
    obtain ⟨v2, e3, h⟩ := zbind h
    refine z_iald hx hb hK hw e3 dX11_tongues_114 ?_
    obtain ⟨s4, e5, h⟩ := zbind h
    refine z_iast hx hb hK hw e5 dX11_tongues_115 (fun H locs hw => ?_)
    refine lv_iinc (v := x7 + 1) (lv' := [(7, .int (x7 + 1)), (0, .ref (ad 0))]) hx hb dX11_tongues_116 hl (k := 1) rfl rfl (by decide) rfl (fun ls hl => ?_)
    refine lv_goto (tgt := 95) hx hb dX11_tongues_119 (by decide) ?_
    obtain rfl := Option.some.inj h
    exact hn _ rfl _ _ _ hw (lv_sub hl [1, 0] rfl)
theorem hX11_tongues : yX11_tongues.cls = RX11 ∧ yX11_tongues.cls ≠ "java/lang/invoke/MethodHandle" ∧ yX11_tongues.cls ≠ "java/lang/invoke/VarHandle" ∧ (parseMethodDescriptor yX11_tongues.desc).map (fun d => d.parameters.length) = some 4 := by decide +kernel
set_option maxHeartbeats 4000000 in
set_option maxRecDepth 100000 in
theorem kX11_tongues (l : Launch) (D : va_G) (g : zG) (ad : Nat → Nat) (σ : zSt) (x1 : Int32) (x2 : Int32) (x3 : Int32) (x4 : Int32) (o : Int32 × zSt) (h : fX11_tongues σ x1 x2 x3 x4 = some o) : zMi l D g 1 ad yX11_tongues (Cond.code yX11_tongues cX11_tongues 8 (some .int) :: zws) (zRm 4) [.ref (ad 0), .int x1, .int x2, .int x3, .int x4] σ o.1 o.2 := by
  refine z_enter_i (by decide) (Nat.le_of_ble_eq_true rfl) ?_
  intro p e s m below meth c A ls Q C hw hl hret
  obtain ⟨hx, hb, hml, hown, hts, hK, hA⟩ := id C
  have hown : s.vm.findClass RX11 = some m.cls := hown
  have C : zCx p c cX11_tongues s _ RX11 m 8 A s.heap D g := C
  have hl : lv_has ls 8 [(0, .ref (ad 0)), (1, .int x1), (2, .int x2), (3, .int x3), (4, .int x4)] := hl
  unfold fX11_tongues at h
  refine lv_aload_n hx hb dX11_tongues_0 rfl (lv_at hl 0 rfl) ?_
  refine lv_iconst (v := 0) hx hb dX11_tongues_1 (by decide) ?_
  refine z_puti hx hb hts zin_X11 tyX11_ok nmX11 hown hK hw zF1_0_0 (hts _ zw_838) zY1_0_0 dX11_tongues_2 (fun H locs hw => ?_)
  refine lv_iload_n hx hb dX11_tongues_5 rfl (lv_at hl 1 rfl) ?_
  refine z_cSi (As := [.int x1]) (rest := []) ⟨hx, hb, hml, hown, hts⟩ hK hw hA (kX11_isSheet l D g ad (zwI σ 0 0 (0 : Int32)) x1 _ rfl) (zcwS 1 hts zgoodIn zw_927 zw_928 zw_64 zw_929 rfl rfl hX11_isSheet ⟨Nat.le_of_ble_eq_true rfl, Nat.le_of_ble_eq_true rfl⟩) rfl hl.1 rfl (Nat.le_of_ble_eq_true rfl) dX11_tongues_6 ⟨Nat.zero_le _, Nat.zero_le _⟩ (fun H locs hw => ?_)
  refine lv_if_ne (tgt := 14) hx hb dX11_tongues_9 (by decide) (fun t1 => ?_) (fun t1 => ?_)
  · rw [if_neg t1] at h
    refine lv_iload_n hx hb dX11_tongues_14 rfl (lv_at hl 2 rfl) ?_
    refine z_cSi (As := [.int x2]) (rest := []) ⟨hx, hb, hml, hown, hts⟩ hK hw hA (kX11_isSort l D g ad (zwI σ 0 0 (0 : Int32)) x2 _ rfl) (zcwS 1 hts zgoodIn zw_933 zw_934 zw_64 zw_935 rfl rfl hX11_isSort ⟨Nat.le_of_ble_eq_true rfl, Nat.le_of_ble_eq_true rfl⟩) rfl hl.1 rfl (Nat.le_of_ble_eq_true rfl) dX11_tongues_15 ⟨Nat.zero_le _, Nat.zero_le _⟩ (fun H locs hw => ?_)
    refine lv_if_ne (tgt := 24) hx hb dX11_tongues_18 (by decide) (fun t2 => ?_) (fun t2 => ?_)
    · rw [if_neg t2] at h
      refine lv_aload_n hx hb dX11_tongues_24 rfl (lv_at hl 0 rfl) ?_
      refine lv_iload_n hx hb dX11_tongues_25 rfl (lv_at hl 1 rfl) ?_
      refine lv_iload_n hx hb dX11_tongues_26 rfl (lv_at hl 2 rfl) ?_
      refine lv_iload_n hx hb dX11_tongues_27 rfl (lv_at hl 3 rfl) ?_
      refine lv_iload hx hb dX11_tongues_28 (lv_at hl 4 rfl) ?_
      obtain ⟨r3, e4, h⟩ := zbind h
      refine z_cVi (As := [.int x1, .int x2, .int x3, .int x4]) (rest := []) ⟨hx, hb, hml, hown, hts⟩ hK hw hA (kX11_against l D g ad (zwI σ 0 0 (0 : Int32)) x1 x2 x3 x4 r3 e4) (zcwV 4 hts zgoodIn zw_936 zw_938 zw_24 zw_64 zw_939 rfl rfl hX11_against ⟨Nat.le_of_ble_eq_true rfl, Nat.le_of_ble_eq_true rfl⟩) zO1_0 rfl hl.1 rfl (Nat.le_of_ble_eq_true rfl) dX11_tongues_30 ⟨Nat.zero_le _, Nat.zero_le _⟩ (fun H locs hw => ?_)
      refine lv_istore (lv' := [(5, .int r3), (0, .ref (ad 0)), (1, .int x1), (2, .int x2), (3, .int x3), (4, .int x4)]) hx hb dX11_tongues_33 hl (by decide) rfl (fun ls hl => ?_)
      refine lv_iload hx hb dX11_tongues_35 (lv_at hl 0 rfl) ?_
      refine lv_if_eq (tgt := 47) hx hb dX11_tongues_37 (by decide) (fun t5 => ?_) (fun t5 => ?_)
      · rw [if_pos t5] at h
        refine lv_bipush (v := 120) hx hb dX11_tongues_47 (by decide) ?_
        refine lv_iload_n hx hb dX11_tongues_49 rfl (lv_at hl 2 rfl) ?_
        refine lv_imul hx hb dX11_tongues_50 ?_
        refine lv_iload_n hx hb dX11_tongues_51 rfl (lv_at hl 4 rfl) ?_
        refine lv_iadd hx hb dX11_tongues_52 ?_
        refine lv_istore (lv' := [(6, .int (((120 : Int32) * x1) + x3)), (5, .int r3), (0, .ref (ad 0)), (1, .int x1), (2, .int x2), (3, .int x3), (4, .int x4)]) hx hb dX11_tongues_53 hl (by decide) rfl (fun ls hl => ?_)
        refine lv_aload_n hx hb dX11_tongues_55 rfl (lv_at hl 2 rfl) ?_
        refine lv_iload hx hb dX11_tongues_56 (lv_at hl 0 rfl) ?_
        refine z_puti hx hb hts zin_X11 tyX11_ok nmX11 hown hK hw zF1_0_7 (hts _ zw_845) zY1_0_7 dX11_tongues_58 (fun H locs hw => ?_)
        refine lv_aload_n hx hb dX11_tongues_61 rfl (lv_at hl 2 rfl) ?_
        refine lv_iload hx hb dX11_tongues_62 (lv_at hl 0 rfl) ?_
        refine lv_iload hx hb dX11_tongues_64 (lv_at hl 6 rfl) ?_
        refine lv_iadd hx hb dX11_tongues_66 ?_
        obtain ⟨r6, e7, h⟩ := zbind h
        refine z_cVi (As := [.int ((((120 : Int32) * x1) + x3) + x4)]) (rest := []) ⟨hx, hb, hml, hown, hts⟩ hK hw hA (kX11_readTongues l D g ad (zwI (zwI σ 0 0 (0 : Int32)) 0 7 (((120 : Int32) * x1) + x3)) ((((120 : Int32) * x1) + x3) + x4) r6 e7) (zcwV 1 hts zgoodIn zw_944 zw_946 zw_26 zw_64 zw_947 rfl rfl hX11_readTongues ⟨Nat.le_of_ble_eq_true rfl, Nat.le_of_ble_eq_true rfl⟩) zO1_0 rfl hl.1 rfl (Nat.le_of_ble_eq_true rfl) dX11_tongues_67 ⟨Nat.zero_le _, Nat.zero_le _⟩ (fun H locs hw => ?_)
        refine lv_if_ne (tgt := 84) hx hb dX11_tongues_70 (by decide) (fun t8 => ?_) (fun t8 => ?_)
        · rw [if_neg t8] at h
          refine lv_aload_n hx hb dX11_tongues_84 rfl (lv_at hl 2 rfl) ?_
          refine lv_aload_n hx hb dX11_tongues_85 rfl (lv_at hl 2 rfl) ?_
          refine z_geti hx hb hts zin_X11 hown hK hw zF1_0_8 (hts _ zw_846) dX11_tongues_86 ?_
          refine z_puti hx hb hts zin_X11 tyX11_ok nmX11 hown hK hw zF1_0_5 (hts _ zw_843) zY1_0_5 dX11_tongues_89 (fun H locs hw => ?_)
          refine lv_iconst (v := 0) hx hb dX11_tongues_92 (by decide) ?_
          refine lv_istore (lv' := [(7, .int (0 : Int32)), (6, .int (((120 : Int32) * x1) + x3)), (5, .int r3), (0, .ref (ad 0)), (1, .int x1), (2, .int x2), (3, .int x3), (4, .int x4)]) hx hb dX11_tongues_93 hl (by decide) rfl (fun ls hl => ?_)
          obtain ⟨b9, e10, h⟩ := zbind h
          refine wX11_tongues_95 C  zFU ((0 : Int32), zwI r6.2 0 5 (zI r6.2 0 8)) b9 e10 (fun H locs ls hw hl => ?_) _ _ _ hw (lv_sub hl [3, 0] rfl)
          have hl : lv_has ls 8 [(0, .ref (ad 0)), (7, .int b9.1)] := hl
          refine lv_aload_n hx hb dX11_tongues_122 rfl (lv_at hl 0 rfl) ?_
          refine lv_iconst (v := 0) hx hb dX11_tongues_123 (by decide) ?_
          refine z_putb hx hb hts zin_X11 tyX11_ok nmX11 hown hK hw zF1_0_16 (hts _ zw_854) zY1_0_16 rfl rfl dX11_tongues_124 (fun H locs hw => ?_)
          refine lv_aload_n hx hb dX11_tongues_127 rfl (lv_at hl 0 rfl) ?_
          refine lv_iconst (v := 0) hx hb dX11_tongues_128 (by decide) ?_
          refine z_puti hx hb hts zin_X11 tyX11_ok nmX11 hown hK hw zF1_0_17 (hts _ zw_855) zY1_0_17 dX11_tongues_129 (fun H locs hw => ?_)
          refine lv_aload_n hx hb dX11_tongues_132 rfl (lv_at hl 0 rfl) ?_
          refine lv_iconst (v := 0) hx hb dX11_tongues_133 (by decide) ?_
          refine z_puti hx hb hts zin_X11 tyX11_ok nmX11 hown hK hw zF1_0_19 (hts _ zw_857) zY1_0_19 dX11_tongues_134 (fun H locs hw => ?_)
          refine lv_aload_n hx hb dX11_tongues_137 rfl (lv_at hl 0 rfl) ?_
          refine z_geti hx hb hts zin_X11 hown hK hw zF1_0_5 (hts _ zw_843) dX11_tongues_138 ?_
          obtain rfl := Option.some.inj h
          exact hret _ _ _ _ hw rfl dX11_tongues_141
        · rw [if_pos t8] at h
          refine lv_bipush (v := (-100)) hx hb dX11_tongues_73 (by decide) ?_
          refine lv_aload_n hx hb dX11_tongues_75 rfl (lv_at hl 2 rfl) ?_
          refine z_geti hx hb hts zin_X11 hown hK hw zF1_0_7 (hts _ zw_845) dX11_tongues_76 ?_
          refine lv_iload hx hb dX11_tongues_79 (lv_at hl 0 rfl) ?_
          refine lv_isub hx hb dX11_tongues_81 ?_
          refine lv_isub hx hb dX11_tongues_82 ?_
          obtain rfl := Option.some.inj h
          exact hret _ _ _ _ hw rfl dX11_tongues_83
      · rw [if_neg t5] at h
        refine lv_aload_n hx hb dX11_tongues_40 rfl (lv_at hl 1 rfl) ?_
        refine lv_iload hx hb dX11_tongues_41 (lv_at hl 0 rfl) ?_
        refine z_cVi (As := [.int r3]) (rest := []) ⟨hx, hb, hml, hown, hts⟩ hK hw hA (kX11_fails l D g ad (zwI σ 0 0 (0 : Int32)) r3 _ rfl) (zcwV 1 hts zgoodIn zw_940 zw_942 zw_25 zw_64 zw_943 rfl rfl hX11_fails ⟨Nat.le_of_ble_eq_true rfl, Nat.le_of_ble_eq_true rfl⟩) zO1_0 rfl hl.1 rfl (Nat.le_of_ble_eq_true rfl) dX11_tongues_43 ⟨Nat.zero_le _, Nat.zero_le _⟩ (fun H locs hw => ?_)
        obtain rfl := Option.some.inj h
        exact hret _ _ _ _ hw rfl dX11_tongues_46
    · rw [if_pos t2] at h
      refine lv_bipush (v := (-2)) hx hb dX11_tongues_21 (by decide) ?_
      obtain rfl := Option.some.inj h
      exact hret _ _ _ _ hw rfl dX11_tongues_23
  · rw [if_pos t1] at h
    refine lv_iconst (v := (-1)) hx hb dX11_tongues_12 (by decide) ?_
    obtain rfl := Option.some.inj h
    exact hret _ _ _ _ hw rfl dX11_tongues_13
set_option maxHeartbeats 4000000 in
set_option maxRecDepth 100000 in
theorem wX11_lacks_6 {p : Program} {l : Launch} {e : Env} {s : State} {m : MethodId} {args : Array Value} {below : List Frame} {meth : Method} {c : Code} {A : Nat → Prop} {H0 : Heap} {Q : State → Prop} {D : va_G} {g : zG} {ad : Nat → Nat} (C : zCx p c cX11_lacks s args RX11 m 5 A H0 D g) (σ : zSt) (x0 : Nat) (x1 : Int32) (x2 : Int32) (n : Nat) (a : (Int32 × Int32)) (b : (Int32 × Int32)) (h : zLp (fun a => bX11_lacks_6 σ x0 x1 x2 a.1 a.2) n a = some b) (hk : ∀ (H : Heap) (locs : List Loc) (ls : Array Slot), zH D g 1 ad A H0 σ H locs → lv_has ls 5 [(0, .ref (ad x0)), (1, .int x1), (2, .int x2), (3, .int b.1), (4, .int b.2)] → W p l e (zRm 0) s m args below meth c H locs 0 0 Q (F0 m 27 ls [])) : ∀ (H : Heap) (locs : List Loc) (ls : Array Slot), zH D g 1 ad A H0 σ H locs → lv_has ls 5 [(0, .ref (ad x0)), (1, .int x1), (2, .int x2), (3, .int a.1), (4, .int a.2)] → W p l e (zRm 0) s m args below meth c H locs 0 0 Q (F0 m 6 ls []) := by
  obtain ⟨hx, hb, hml, hown, hts, hK, hA⟩ := id C
  refine zLp_walk (P := fun (a : (Int32 × Int32)) => ∀ (H : Heap) (locs : List Loc) (ls : Array Slot), zH D g 1 ad A H0 σ H locs → lv_has ls 5 [(0, .ref (ad x0)), (1, .int x1), (2, .int x2), (3, .int a.1), (4, .int a.2)] → W p l e (zRm 0) s m args below meth c H locs 0 0 Q (F0 m 6 ls [])) (E := fun (b' : (Int32 × Int32)) => b' = b) ?_ n a b h rfl
  intro a r h hn he H locs ls hw hl
  obtain ⟨x3, x4⟩ := a
  have h : bX11_lacks_6 σ x0 x1 x2 x3 x4 = some r := h
  have hl : lv_has ls 5 [(0, .ref (ad x0)), (1, .int x1), (2, .int x2), (3, .int x3), (4, .int x4)] := hl
  have hw : zH D g 1 ad A H0 σ H locs := hw
  unfold bX11_lacks_6 at h
  refine lv_iload hx hb dX11_lacks_6 (lv_at hl 4 rfl) ?_
  refine lv_iload_n hx hb dX11_lacks_8 rfl (lv_at hl 2 rfl) ?_
  refine lv_icmp_ge (tgt := 27) hx hb dX11_lacks_9 (by decide) (fun t1 => ?_) (fun t1 => ?_)
  · rw [if_pos t1] at h
    obtain rfl := Option.some.inj h
    obtain rfl := he _ rfl
    exact hk _ _ _ hw (lv_sub hl [0, 1, 2, 3, 4] rfl)
  · rw [if_neg t1] at h
    refine lv_iload_n hx hb dX11_lacks_12 rfl (lv_at hl 3 rfl) ?_
    refine lv_aload_n hx hb dX11_lacks_13 rfl (lv_at hl 0 rfl) ?_
    refine lv_iload_n hx hb dX11_lacks_14 rfl (lv_at hl 1 rfl) ?_
    refine lv_iload hx hb dX11_lacks_15 (lv_at hl 4 rfl) ?_
    refine lv_iadd hx hb dX11_lacks_17 ?_
    obtain ⟨v2, e3, h⟩ := zbind h
    refine z_iald hx hb hK hw e3 dX11_lacks_18 ?_
    refine lv_isub hx hb dX11_lacks_19 ?_
    refine lv_istore_n (lv' := [(3, .int (x3 - v2)), (0, .ref (ad x0)), (1, .int x1), (2, .int x2), (4, .int x4)]) hx hb dX11_lacks_20 rfl hl (by decide) rfl (fun ls hl => ?_)
    refine lv_iinc (v := x4 + 1) (lv' := [(4, .int (x4 + 1)), (3, .int (x3 - v2)), (0, .ref (ad x0)), (1, .int x1), (2, .int x2)]) hx hb dX11_lacks_21 hl (k := 4) rfl rfl (by decide) rfl (fun ls hl => ?_)
    refine lv_goto (tgt := 6) hx hb dX11_lacks_24 (by decide) ?_
    obtain rfl := Option.some.inj h
    exact hn _ rfl _ _ _ hw (lv_sub hl [2, 3, 4, 1, 0] rfl)
theorem hX11_lacks : yX11_lacks.cls ≠ "java/lang/invoke/MethodHandle" ∧ yX11_lacks.cls ≠ "java/lang/invoke/VarHandle" ∧ (parseMethodDescriptor yX11_lacks.desc).map (fun d => d.parameters.length) = some 3 := by decide +kernel
set_option maxHeartbeats 4000000 in
set_option maxRecDepth 100000 in
theorem kX11_lacks (l : Launch) (D : va_G) (g : zG) (ad : Nat → Nat) (σ : zSt) (x0 : Nat) (x1 : Int32) (x2 : Int32) (o : Int32) (h : fX11_lacks σ x0 x1 x2 = some o) : zMi l D g 1 ad yX11_lacks (Cond.code yX11_lacks cX11_lacks 5 (some .int) :: zws) (zRm 0) [.ref (ad x0), .int x1, .int x2] σ o σ := by
  refine z_enter_i (by decide) (Nat.le_of_ble_eq_true rfl) ?_
  intro p e s m below meth c A ls Q C hw hl hret
  obtain ⟨hx, hb, hml, hown, hts, hK, hA⟩ := id C
  have hown : s.vm.findClass RX11 = some m.cls := hown
  have C : zCx p c cX11_lacks s _ RX11 m 5 A s.heap D g := C
  have hl : lv_has ls 5 [(0, .ref (ad x0)), (1, .int x1), (2, .int x2)] := hl
  unfold fX11_lacks at h
  refine lv_bipush (v := 12) hx hb dX11_lacks_0 (by decide) ?_
  refine lv_istore_n (lv' := [(3, .int (12 : Int32)), (0, .ref (ad x0)), (1, .int x1), (2, .int x2)]) hx hb dX11_lacks_2 rfl hl (by decide) rfl (fun ls hl => ?_)
  refine lv_iconst (v := 0) hx hb dX11_lacks_3 (by decide) ?_
  refine lv_istore (lv' := [(4, .int (0 : Int32)), (3, .int (12 : Int32)), (0, .ref (ad x0)), (1, .int x1), (2, .int x2)]) hx hb dX11_lacks_4 hl (by decide) rfl (fun ls hl => ?_)
  obtain ⟨b1, e2, h⟩ := zbind h
  refine wX11_lacks_6 C σ x0 x1 x2 zFU ((12 : Int32), (0 : Int32)) b1 e2 (fun H locs ls hw hl => ?_) _ _ _ hw (lv_sub hl [2, 3, 4, 1, 0] rfl)
  have hl : lv_has ls 5 [(0, .ref (ad x0)), (1, .int x1), (2, .int x2), (3, .int b1.1), (4, .int b1.2)] := hl
  refine lv_iload_n hx hb dX11_lacks_27 rfl (lv_at hl 3 rfl) ?_
  obtain rfl := Option.some.inj h
  exact hret _ _ _ _ hw rfl dX11_lacks_28
theorem hX11_rowOf : yX11_rowOf.cls ≠ "java/lang/invoke/MethodHandle" ∧ yX11_rowOf.cls ≠ "java/lang/invoke/VarHandle" ∧ (parseMethodDescriptor yX11_rowOf.desc).map (fun d => d.parameters.length) = some 2 := by decide +kernel
set_option maxHeartbeats 4000000 in
set_option maxRecDepth 100000 in
theorem kX11_rowOf (l : Launch) (D : va_G) (g : zG) (ad : Nat → Nat) (σ : zSt) (x0 : Int32) (x1 : Int32) (o : Int32) (h : fX11_rowOf x0 x1 = o) : zMi l D g 1 ad yX11_rowOf (Cond.code yX11_rowOf cX11_rowOf 2 (some .int) :: zws) (zRm 0) [.int x0, .int x1] σ o σ := by
  refine z_enter_i (by decide) (Nat.le_of_ble_eq_true rfl) ?_
  intro p e s m below meth c A ls Q C hw hl hret
  obtain ⟨hx, hb, hml, hown, hts, hK, hA⟩ := id C
  have hown : s.vm.findClass RX11 = some m.cls := hown
  have C : zCx p c cX11_rowOf s _ RX11 m 2 A s.heap D g := C
  have hl : lv_has ls 2 [(0, .int x0), (1, .int x1)] := hl
  unfold fX11_rowOf at h
  refine lv_bipush (v := 36) hx hb dX11_rowOf_0 (by decide) ?_
  refine lv_iload_n hx hb dX11_rowOf_2 rfl (lv_at hl 0 rfl) ?_
  refine lv_imul hx hb dX11_rowOf_3 ?_
  refine lv_bipush (v := 6) hx hb dX11_rowOf_4 (by decide) ?_
  refine lv_iload_n hx hb dX11_rowOf_6 rfl (lv_at hl 1 rfl) ?_
  refine lv_imul hx hb dX11_rowOf_7 ?_
  refine lv_iadd hx hb dX11_rowOf_8 ?_
  subst h
  exact hret _ _ _ _ hw rfl dX11_rowOf_9
