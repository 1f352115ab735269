/-! THE FIRST STATES; parts of worlds; Arrays.fill of a lone row -/
def zS0 : zSt := (fun c k => if c = 17 then (if k < 4 then -1 else 0) else if c = 9 then (if k = 2 then -1 else 0) else 0, fun _ _ => 0, fun c k => if c = 7 then (if k = 1 then 69 else 70) else if c = 9 then (if k = 0 then 80 else 81) else 31)
def zT0 : zSt := (fun c k => if c = 1 then (if k < 4 then -9 else 0) else 0, fun _ _ => 0, fun _ _ => 0)
def zWs (g : zG) (w : Nat) (ad : Nat → Nat) (σ : zSt) (js : List Nat) : va_W := js.map (fun j => (ad j, zcell g w ad σ j))
theorem zouterc {g : zG} {w : Nat} {ad r : Nat → Nat} {σ : zSt} {j n : Nat} (h1 : znO w ≤ j) (h2 : zak w j = 2) (h3 : zlen w j = n) (h : ∀ i, i < n → ad (j + 1 + i) = r i) : zcell g w ad σ j = .inl (g.2.2, n, .inr (.inr (.inr (.inr (fun i => if i < n then some (r i) else none))))) := by
  have e : (fun i => if i < n then some (ad (j + 1 + i)) else none) = (fun i => if i < n then some (r i) else none) := by
    funext i
    by_cases e : i < n
    · rw [if_pos e, if_pos e, h i e]
    · rw [if_neg e, if_neg e]
  rw [zcell_A h1 h2, h3, e]
/-- a row that is written at its first four places -/
theorem zupd4 (v : Int32) : upd (upd (upd (upd (fun _ => 0) 0 v) 1 v) 2 v) 3 v = (fun i => if i < 4 then v else 0) := by
  funext i
  unfold upd
  by_cases e3 : i = 3
  · rw [if_pos e3, if_pos (by omega)]
  · rw [if_neg e3]
    by_cases e2 : i = 2
    · rw [if_pos e2, if_pos (by omega)]
    · rw [if_neg e2]
      by_cases e1 : i = 1
      · rw [if_pos e1, if_pos (by omega)]
      · rw [if_neg e1]
        by_cases e0 : i = 0
        · rw [if_pos e0, if_pos (by omega)]
        · rw [if_neg e0, if_neg (by omega)]
set_option maxHeartbeats 4000000 in
set_option maxRecDepth 100000 in
theorem kfill0 (l : Launch) (D : va_G) (g : zG) (a : Nat) (f : Nat → Int32) (v : Int32) : zCt l D g yJ7_fill_53178 (Cond.code yJ7_fill_53178 cJ7_fill_53178 4 (none : Option Jvm.ClassFile.FieldType) :: zws) (zRm 0) [.ref a, .int v] [(a, .inl (g.1, 4, .inl f))] (fun _ => True) (fun _ => [(a, .inl (g.1, 4, .inl (fun i => if i < 4 then v else f i)))]) := by
  refine z_enter_c (by decide) (Nat.le_of_ble_eq_true rfl) ?_
  intro p e s m below meth c A ls Q C hTb hin hP hD hS hl hret
  obtain ⟨hx, hb, hml, hown, hts, hK, hA⟩ := id C
  have hl : lv_has ls 4 [(0, .ref a), (1, .int v)] := hl
  have loop : ∀ (k i : Nat), i + k = 4 → ∀ (H : Heap) (locs : List Loc) (ls : Array Slot), va_P D vwCl [(a, .inl (g.1, 4, .inl (fun j => if j < i then v else f j)))] H → va_D A [(a, .inl (g.1, 4, .inl (fun j => if j < i then v else f j)))] → va_S A s.heap H locs → lv_has ls 4 [(0, .ref a), (1, .int v), (2, .int (nI i)), (3, .int 4)] → W p l e (zRm 0) s m #[.ref a, .int v] below meth c H locs 0 0 Q (F0 m 5 ls []) := by
    intro k
    induction k with
    | zero =>
      intro i hi H locs ls hP hD hS hl
      have hi : i = 4 := by omega
      subst hi
      refine lv_iload_n hx hb dJ7_fill_53178_5 rfl (lv_at hl 2 rfl) ?_
      refine lv_iload_n hx hb dJ7_fill_53178_6 rfl (lv_at hl 3 rfl) ?_
      refine lv_icmp_ge (tgt := 20) hx hb dJ7_fill_53178_7 (by decide) (fun t1 => ?_) (fun t1 => absurd (show (4 : Int32) ≤ nI 4 by decide) t1)
      exact hret H locs _ ls (fun _ => 0) trivial hP hD hS dJ7_fill_53178_20
    | succ k ih =>
      intro i hi H locs ls hP hD hS hl
      refine lv_iload_n hx hb dJ7_fill_53178_5 rfl (lv_at hl 2 rfl) ?_
      refine lv_iload_n hx hb dJ7_fill_53178_6 rfl (lv_at hl 3 rfl) ?_
      refine lv_icmp_ge (tgt := 20) hx hb dJ7_fill_53178_7 (by decide) (fun t1 => absurd t1 (show ¬ (4 : Int32) ≤ nI i from nI_ge (b := 4) (by omega) (by decide))) (fun t1 => ?_)
      refine lv_aload_n hx hb dJ7_fill_53178_10 rfl (lv_at hl 0 rfl) ?_
      refine lv_iload_n hx hb dJ7_fill_53178_11 rfl (lv_at hl 2 rfl) ?_
      refine lv_iload_n hx hb dJ7_fill_53178_12 rfl (lv_at hl 1 rfl) ?_
      refine va_iast hx hb hK hP hD hS 0 0 rfl rfl (vp_in_nI (show i < 4 by omega) (by omega)) dJ7_fill_53178_13 (fun H locs hP hD hS => ?_)
      have he : upd (fun j => if j < i then v else f j) (nI i).toNatClampNeg v = (fun j => if j < i + 1 then v else f j) := by
        rw [nI_clamp (by omega)]
        funext j
        unfold upd
        by_cases e1 : j = i
        · rw [if_pos e1, if_pos (by omega)]
        · rw [if_neg e1]
          show (if j < i then v else f j) = _
          by_cases e2 : j < i
          · rw [if_pos e2, if_pos (by omega)]
          · rw [if_neg e2, if_neg (by omega)]
      rw [he] at hP hD
      refine lv_iinc (v := nI (i + 1)) (lv' := [(2, .int (nI (i + 1))), (0, .ref a), (1, .int v), (3, .int 4)]) hx hb dJ7_fill_53178_14 hl (k := 2) rfl (nI_1 i) (by decide) rfl (fun ls hl => ?_)
      refine lv_goto (tgt := 5) hx hb dJ7_fill_53178_17 (by decide) ?_
      exact ih (i + 1) (by omega) _ _ _ hP hD hS (lv_sub hl [1, 2, 0, 3] rfl)
  refine lv_iconst (v := 0) hx hb dJ7_fill_53178_0 (by decide) ?_
  refine lv_istore_n (lv' := [(2, .int (0 : Int32)), (0, .ref a), (1, .int v)]) hx hb dJ7_fill_53178_1 rfl hl (by decide) rfl (fun ls hl => ?_)
  refine lv_aload_n hx hb dJ7_fill_53178_2 rfl (lv_at hl 1 rfl) ?_
  refine va_alen (v := 4) hx hb hK hP 0 0 rfl rfl rfl dJ7_fill_53178_3 ?_
  refine lv_istore_n (lv' := [(3, .int (4 : Int32)), (2, .int (0 : Int32)), (0, .ref a), (1, .int v)]) hx hb dJ7_fill_53178_4 rfl hl (by decide) rfl (fun ls hl => ?_)
  exact loop 4 0 rfl _ _ _ hP hD hS (lv_sub hl [2, 3, 1, 0] rfl)
