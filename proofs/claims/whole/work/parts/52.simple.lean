/-! arguments in a range -/
def zIn (x : Int32) (m : Nat) : Int32 := if x < 0 then 0 else if nI m ≤ x then 0 else 1
theorem zIn_c (x : Int32) {m : Nat} (hm : m < 2 ^ 31) : zIn x m = 0 ∨ ∃ j, j < m ∧ x = nI j ∧ zIn x m = 1 := by
  rcases pk_ix x hm with h | h | ⟨j, hj, rfl⟩
  · exact Or.inl (by unfold zIn; rw [if_pos h])
  · refine Or.inl ?_
    unfold zIn
    by_cases h0 : x < 0
    · rw [if_pos h0]
    · rw [if_neg h0, if_pos h]
  · refine Or.inr ⟨j, hj, rfl, ?_⟩
    unfold zIn
    rw [if_neg (nI_pos (by omega)), if_neg (nI_ge hj hm)]
theorem zlt_succ {x : Int32} {m : Nat} (hm : m + 1 < 2 ^ 31) : nI m < x ↔ nI (m + 1) ≤ x := by
  rw [Int32.lt_iff_toInt_lt, Int32.le_iff_toInt_le, nI_toInt (by omega), nI_toInt hm]
  omega
theorem zInL (x : Int32) {m : Nat} (hm : m + 1 < 2 ^ 31) : (if x < 0 then (0 : Int32) else if nI m < x then 0 else 1) = zIn x (m + 1) := by
  unfold zIn
  by_cases h : nI m < x
  · rw [if_pos h, if_pos ((zlt_succ hm).mp h)]
  · rw [if_neg h, if_neg (fun q => h ((zlt_succ hm).mpr q))]
theorem i00 {α : Sort _} {x y : α} : (if (0 : Int32) = 0 then x else y) = x := if_pos rfl
theorem i10 {α : Sort _} {x y : α} : (if (1 : Int32) = 0 then x else y) = y := if_neg (by decide)
theorem z_has6 (x : Int32) : fX6_has x = zIn x 4 := rfl
theorem z_sort (x : Int32) : fX10_isSort x = zIn x 3 := rfl
theorem z_way (x : Int32) : fX10_isWay x = zIn x 2 := rfl
theorem z_kind (x : Int32) : fX10_isKind x = zIn x 3 := zInL x (m := 2) (by decide)
theorem z_tired (x : Int32) : fX10_isTired x = zIn x 10 := zInL x (m := 9) (by decide)
theorem z_which (x : Int32) : fX10_isWhich x = zIn x 2 := by
  rcases zIn_c x (m := 2) (by decide) with h | ⟨j, hj, rfl, h⟩
  · rw [h]
    unfold fX10_isWhich
    rw [if_neg (fun e => by subst e; exact absurd h (by decide)), if_neg (fun e => by subst e; exact absurd h (by decide))]
  · rw [h]
    rcases (show j = 0 ∨ j = 1 by omega) with rfl | rfl <;> decide
theorem z_wit (x : Int32) {m : Nat} (hm : m + 1 < 2 ^ 31) : fX11_within x 0 (nI m) = zIn x (m + 1) := zInL x hm
theorem z_sheetM (x : Int32) : fX11_isSheet x = zIn x 4 := z_wit x (m := 3) (by decide)
theorem z_sortM (x : Int32) : fX11_isSort x = zIn x 3 := z_wit x (m := 2) (by decide)
theorem z_wayM (x : Int32) : fX11_isWay x = zIn x 2 := z_wit x (m := 1) (by decide)
theorem z_whichM (x : Int32) : fX11_isWhich x = zIn x 2 := z_wit x (m := 1) (by decide)
theorem z_word {σ τ : zSt} {n : Nat} {T : Nat → Nat → Nat → Nat} (h : pT σ τ n T) (x : Int32) : fX10_isWord σ x = zIn x n := by
  unfold fX10_isWord zIn
  rw [h.2.2.1]
theorem z_wordM {σ τ : zSt} {n : Nat} {T : Nat → Nat → Nat → Nat} (h : pT σ τ n T) (x : Int32) : fX11_isWord τ x = zIn x n := by
  unfold fX11_isWord zIn
  rw [h.2.2.2.1]
theorem z_end {σ τ : zSt} {n : Nat} {T : Nat → Nat → Nat → Nat} (h : pT σ τ n T) (x : Int32) : fX10_isWordOrNothing σ x = zIn x (n + 1) := by
  unfold fX10_isWordOrNothing
  rw [h.2.2.1]
  exact zInL x (by have := h.2.1; omega)
theorem z_endM {σ τ : zSt} {n : Nat} {T : Nat → Nat → Nat → Nat} (h : pT σ τ n T) (hn : 0 < n) (x : Int32) : fX11_isEnd τ x = zIn x (n + 1) := by
  have h6 := h.2.1
  rw [← zInL x (m := n) (by omega)]
  unfold fX11_isEnd
  rw [h.2.2.2.1, show (0 : Int32) = nI 0 from rfl, i_nle hn (by omega)]
theorem z_int {σ τ : zSt} {c : Nat} {kd td : Nat → Nat} (h : pC σ τ c kd td) (x : Int32) : fX2_has σ x = zIn x c := by
  unfold fX2_has zIn
  rw [h.2.1]
theorem z_intM {σ τ : zSt} {c : Nat} {kd td : Nat → Nat} (h : pC σ τ c kd td) (x : Int32) : fX11_isInterpreter τ x = zIn x c := by
  unfold fX11_isInterpreter zIn
  rw [h.2.2.1]
/-! the calls that only look, or change one number -/
theorem q_trace {σ τ : zSt} (h : Inv σ τ) : fX10_trace σ = fX11_trace τ := by
  obtain ⟨n, T, c, kd, td, v, pl, sp, t, tb, tw, th, ts, tm, hA, hT, hC, hW, hU, hR, hX⟩ := h
  exact hX.2
theorem q_fault {σ τ : zSt} (h : Inv σ τ) : fX10_fault σ = fX11_fault τ := by
  obtain ⟨n, T, c, kd, td, v, pl, sp, t, tb, tw, th, ts, tm, hA, hT, hC, hW, hU, hR, hX⟩ := h
  exact hX.1
theorem q_many {σ τ : zSt} (h : Inv σ τ) (x : Int32) : fX10_many σ x = fX11_many τ x := by
  obtain ⟨n, T, c, kd, td, v, pl, sp, t, tb, tw, th, ts, tm, hA, hT, hC, hW, hU, hR, hX⟩ := h
  unfold fX10_many fX11_many
  rw [hT.2.2.1, hT.2.2.2.1, hC.2.1, hC.2.2.1, hW.2.2.1, hW.2.2.2.1, hW.2.2.2.2.1, hW.2.2.2.2.2.1, hU.2.1, hU.2.2.1]
theorem q_ofInterpreter {σ τ : zSt} (h : Inv σ τ) (x y : Int32) : ∃ r, fX10_ofInterpreter σ x y = some r ∧ fX11_ofInterpreter τ x y = some r := by
  obtain ⟨n, T, c, kd, td, v, pl, sp, t, tb, tw, th, ts, tm, hA, hT, hC, hW, hU, hR, hX⟩ := h
  unfold fX10_ofInterpreter fX11_ofInterpreter
  rw [z_int hC, z_intM hC]
  rcases zIn_c x (m := c) (by have := hC.1; omega) with h | ⟨j, hj, rfl, h⟩
  · rw [h, i00, i00]
    exact ⟨_, rfl, rfl⟩
  · have hc := hC.1
    obtain ⟨g1, g2, g3, g4, g5, g6⟩ := hC.2.2.2 j hj
    rw [h, i10, i10, zrI_n (n := 4) (by decide) (by omega), zrI_n (n := 4) (by decide) (by omega), zrI_n (n := 4) (by decide) (by omega), zrI_n (n := 4) (by decide) (by omega), g3, g4, g5, g6]
    by_cases h0 : y = 0
    · simp only [if_pos h0]
      exact ⟨_, rfl, rfl⟩
    · by_cases h1 : y = 1
      · simp only [if_neg h0, if_pos h1]
        exact ⟨_, rfl, rfl⟩
      · simp only [if_neg h0, if_neg h1]
        exact ⟨_, rfl, rfl⟩
theorem q_interpreter {σ τ : zSt} (h : Inv σ τ) (x y : Int32) : ∃ r σ' τ', fX10_interpreter σ x y = some (r, σ') ∧ fX11_interpreter τ x y = some (r, τ') ∧ Inv σ' τ' := by
  have h9 := h
  obtain ⟨n, T, c, kd, td, v, pl, sp, t, tb, tw, th, ts, tm, hA, hT, hC, hW, hU, hR, hX⟩ := h
  unfold fX10_interpreter fX11_interpreter
  rw [z_kind, z_tired, show fX11_within x 0 2 = zIn x 3 from z_wit x (m := 2) (by decide), show fX11_within y 0 9 = zIn y 10 from z_wit y (m := 9) (by decide)]
  rcases zIn_c x (m := 3) (by decide) with h | ⟨k, hk, rfl, h⟩
  · rw [h, i00, i00]
    exact ⟨_, _, _, rfl, rfl, h9⟩
  rw [h, i10, i10]
  rcases zIn_c y (m := 10) (by decide) with h | ⟨d, hd, rfl, h⟩
  · rw [h, i00, i00]
    exact ⟨_, _, _, rfl, rfl, h9⟩
  rw [h, i10, i10]
  have hc := hC.1
  unfold fX2_isFull
  rw [hC.2.1, hC.2.2.1, show (4 : Int32) = nI 4 from rfl]
  by_cases h4 : c = 4
  · subst h4
    rw [i_nlt (Nat.le_refl _) (by decide), i_eq rfl, i10]
    exact ⟨_, _, _, rfl, rfl, h9⟩
  · rw [i_lt (by omega) (by decide), i_ne h4 (by omega) (by decide), i00]
    unfold fX2_hire
    rw [hC.2.1, zsI_n (n := 4) (by decide) (by omega), zsI_n (n := 4) (by decide) (by omega)]
    simp (disch := omega) only [Option.bind_some, zI_ne, hC.2.1, hC.2.2.1]
    rw [zsI_n (n := 4) (by decide) (by omega), zsI_n (n := 4) (by decide) (by omega)]
    simp (disch := omega) only [Option.bind_some, zI_ne, zI_self, hC.2.1, hC.2.2.1]
    refine ⟨_, _, _, rfl, rfl, n, T, c + 1, va_up kd c k, va_up td c d, v, pl, sp, t, tb, tw, th, ts, tm, hA.mv ?_ ?_, hT.mv ?_ ?_ ?_ ?_, ⟨by omega, ?_, ?_, ?_⟩, hW.mv ?_ ?_ ?_ ?_ hT.2.1, ⟨hU.1, ?_, ?_, hU.2.2.2.1, ?_⟩, hR.mv rfl rfl rfl rfl ?_ rfl, ?_, ?_⟩
    all_goals first
      | (intros; simp (disch := omega) only [zI_ne, zI_self]; done)
      | (simp (disch := omega) only [zI_ne, zI_self]; exact nI_1 c)
      | (simp (disch := omega) only [zI_ne, zI_self]; first | exact hU.2.1 | exact hU.2.2.1 | exact hX.1 | exact hX.2)
      | skip
    · intro x hx
      by_cases e : x = c
      · subst e
        simp (disch := omega) only [zI_ne, zI_self, va_up_self]
        refine ⟨by omega, by omega, ?_, ?_, ?_, ?_⟩ <;> first | rfl | trivial
      · rw [va_up_ne _ _ e, va_up_ne _ _ e]
        simp (disch := omega) only [zI_ne]
        exact hC.2.2.2 x (by omega)
    · intro u hu
      obtain ⟨g1, g2, g3⟩ := hU.2.2.2.2 u hu
      rw [va_up_ne _ _ (by omega : tb u ≠ c)]
      simp (disch := omega) only [zI_ne]
      exact ⟨⟨by omega, g1.2⟩, g2, g3⟩
theorem q_tire {σ τ : zSt} (h : Inv σ τ) (x y : Int32) : ∃ r σ' τ', fX10_tire σ x y = some (r, σ') ∧ fX11_tire τ x y = some (r, τ') ∧ Inv σ' τ' := by
  have h9 := h
  obtain ⟨n, T, c, kd, td, v, pl, sp, t, tb, tw, th, ts, tm, hA, hT, hC, hW, hU, hR, hX⟩ := h
  unfold fX10_tire fX11_tire
  rw [z_tired, show fX11_within y 0 9 = zIn y 10 from z_wit y (m := 9) (by decide), z_int hC, z_intM hC]
  have hc := hC.1
  rcases zIn_c x (m := c) (by omega) with h | ⟨j, hj, rfl, h⟩
  · rw [h, i00, i00]
    exact ⟨_, _, _, rfl, rfl, h9⟩
  rw [h, i10, i10]
  rcases zIn_c y (m := 10) (by decide) with h | ⟨d, hd, rfl, h⟩
  · rw [h, i00, i00]
    exact ⟨_, _, _, rfl, rfl, h9⟩
  obtain ⟨g1, g2, g3, g4, g5, g6⟩ := hC.2.2.2 j hj
  rw [h, i10, i10, zrI_n (n := 4) (by decide) (by omega), zrI_n (n := 4) (by decide) (by omega), zsI_n (n := 4) (by decide) (by omega), zsI_n (n := 4) (by decide) (by omega), g5, g6]
  simp only [Option.bind_some]
  refine ⟨_, _, _, rfl, rfl, n, T, c, kd, va_up td j d, v, pl, sp, t, tb, tw, th, ts, tm, hA.mv ?_ ?_, hT.mv ?_ ?_ ?_ ?_, ⟨by omega, ?_, ?_, ?_⟩, hW.mv ?_ ?_ ?_ ?_ hT.2.1, hU.mv ?_ ?_ ?_ ?_, hR.mv rfl rfl rfl rfl ?_ rfl, ?_, ?_⟩
  all_goals first
    | (intros; simp (disch := omega) only [zI_ne, zI_self]; done)
    | (simp (disch := omega) only [zI_ne, zI_self]; first | exact hC.2.1 | exact hC.2.2.1 | exact hX.1 | exact hX.2)
    | skip
  intro z hz
  by_cases e : z = j
  · subst e
    simp (disch := omega) only [zI_ne, zI_self, va_up_self]
    refine ⟨g1, by omega, g3, g4, ?_, ?_⟩ <;> first | rfl | trivial
  · rw [va_up_ne _ _ e]
    simp (disch := omega) only [zI_ne]
    exact hC.2.2.2 z hz
/-- the trace alone grows -/
theorem Inv.marks {σ τ : zSt} (h : Inv σ τ) {x y : Int32} (e : x = y) : Inv (zwI σ 4 3 x) (zwI τ 0 1 y) := by
  obtain ⟨n, T, c, kd, td, v, pl, sp, t, tb, tw, th, ts, tm, hA, hT, hC, hW, hU, hR, hX⟩ := h
  refine ⟨n, T, c, kd, td, v, pl, sp, t, tb, tw, th, ts, tm, hA.mv ?_ ?_, hT.mv ?_ ?_ ?_ ?_, hC.mv ?_ ?_ ?_ ?_, hW.mv ?_ ?_ ?_ ?_ hT.2.1, hU.mv ?_ ?_ ?_ ?_, hR.mv rfl rfl rfl rfl ?_ rfl, ?_, ?_⟩
  all_goals first
    | (intros; simp (disch := omega) only [zI_ne, zI_self]; done)
    | (simp (disch := omega) only [zI_ne, zI_self]; first | exact hX.1 | exact e)
theorem q_begins {σ τ : zSt} (h : Inv σ τ) (k : Int32) : Inv (fX2_mark σ k) (fX11_begins τ k) := by
  unfold fX2_mark fX11_begins
  refine h.marks ?_
  have hX := q_trace h
  unfold fX10_trace fX11_trace at hX
  rw [hX]
theorem q_tell {σ τ : zSt} (h : Inv σ τ) (x : Int32) : ∃ r σ' τ', fX10_tell σ x = some (r, σ') ∧ fX11_tell τ x = some (r, τ') ∧ Inv σ' τ' := by
  have h9 := h
  obtain ⟨n, T, c, kd, td, v, pl, sp, t, tb, tw, th, ts, tm, hA, hT, hC, hW, hU, hR, hX⟩ := h
  unfold fX10_tell fX11_tell
  rw [z_int hC, z_intM hC]
  have hc := hC.1
  rcases zIn_c x (m := c) (by omega) with h | ⟨j, hj, rfl, h⟩
  · rw [h, i00, i00]
    exact ⟨_, _, _, rfl, rfl, h9⟩
  obtain ⟨g1, g2, g3, g4, g5, g6⟩ := hC.2.2.2 j hj
  have m5 : ∀ (s : zSt) (k : Int32) (i : Nat), zI (fX2_mark s k) 47 i = zI s 47 i := fun s k i => by unfold fX2_mark; simp (disch := omega) only [zI_ne]
  rw [h, i10, i10]
  unfold fX2_told fX2_toldBySworn fX2_toldByTrained fX2_toldByKin
  have r46 : ∀ s : zSt, zrI 0 s 46 (nI j) = some (zI s 46 j) := fun s => zrI_n (n := 4) (by decide) (by omega)
  have r47 : ∀ s : zSt, zrI 0 s 47 (nI j) = some (zI s 47 j) := fun s => zrI_n (n := 4) (by decide) (by omega)
  have r6 : ∀ s : zSt, zrI 1 s 6 (nI j) = some (zI s 6 j) := fun s => zrI_n (n := 4) (by decide) (by omega)
  have r7 : ∀ s : zSt, zrI 1 s 7 (nI j) = some (zI s 7 j) := fun s => zrI_n (n := 4) (by decide) (by omega)
  simp only [r46, r47, r6, r7, Option.bind_some, m5, g3, g4, g5, g6]
  rcases (show kd j = 0 ∨ kd j = 1 ∨ kd j = 2 by omega) with e | e | e
  · simp only [e, if_neg (show ¬ nI 0 = 2 by decide), if_neg (show ¬ nI 0 = 1 by decide), Option.bind_some]
    exact ⟨_, _, _, rfl, rfl, q_begins h9 _⟩
  · simp only [e, if_neg (show ¬ nI 1 = 2 by decide), if_pos (show nI 1 = 1 by decide), Option.bind_some]
    exact ⟨_, _, _, rfl, rfl, q_begins (q_begins h9 _) _⟩
  · simp only [e, if_pos (show nI 2 = 2 by decide), if_neg (show ¬ nI 2 = 1 by decide), Option.bind_some]
    refine ⟨_, _, _, rfl, ?_, q_begins (q_begins (q_begins (q_begins h9 3) 2) 1) 1⟩
    rw [show (100 : Int32) = nI 100 from rfl, show (2 : Int32) = nI 2 from rfl, nI_add, nI_add, pk_mul, nI_add]
    rw [show td j + 100 + td j = 2 * td j + 100 by omega]
theorem q_pay {σ τ : zSt} (h : Inv σ τ) (x : Int32) : ∃ r σ' τ', fX10_pay σ x = some (r, σ') ∧ fX11_pay τ x = some (r, τ') ∧ Inv σ' τ' := by
  have h9 := h
  obtain ⟨n, T, c, kd, td, v, pl, sp, t, tb, tw, th, ts, tm, hA, hT, hC, hW, hU, hR, hX⟩ := h
  unfold fX10_pay fX11_pay
  rw [z_int hC, z_intM hC]
  have hc := hC.1
  rcases zIn_c x (m := c) (by omega) with h | ⟨j, hj, rfl, h⟩
  · rw [h, i00, i00]
    exact ⟨_, _, _, rfl, rfl, h9⟩
  obtain ⟨g1, g2, g3, g4, g5, g6⟩ := hC.2.2.2 j hj
  have m5 : ∀ (s : zSt) (k : Int32) (i : Nat), zI (fX11_begins s k) 6 i = zI s 6 i := fun s k i => by unfold fX11_begins; simp (disch := omega) only [zI_ne]
  rw [h, i10, i10]
  unfold fX2_paid
  rw [zrI_n (n := 4) (by decide) (by omega), zrI_n (n := 4) (by decide) (by omega), zrI_n (n := 4) (by decide) (by omega), zrI_n (n := 4) (by decide) (by omega), m5, m5, g3, g4]
  simp only [Option.bind_some]
  by_cases e : nI (kd j) = 2
  · rw [if_pos e, if_pos e, if_pos e]
    exact ⟨_, _, _, rfl, rfl, q_begins h9 _⟩
  · rw [if_neg e, if_neg e, if_neg e]
    exact ⟨_, _, _, rfl, rfl, q_begins h9 _⟩
/-- the fault alone changes -/
theorem Inv.flt {σ τ : zSt} (h : Inv σ τ) {x y : Int32} (e : x = y) : Inv (zwI σ 0 10 x) (zwI τ 0 0 y) := by
  refine h.mv (fun c k hc => zI_ne (by unfold zcoC at hc; omega)) (fun c k hc => zI_ne (by unfold zcoM at hc; omega)) (by rw [zI_self, zI_self, e]) ?_
  obtain ⟨n, T, c, kd, td, v, pl, sp, t, tb, tw, th, ts, tm, hA, hT, hC, hW, hU, hR, hX⟩ := h
  exact hR.mv rfl rfl rfl rfl (zI_ne (by omega)) rfl
theorem zww (σ : zSt) (c k : Nat) (x y : Int32) : zwI (zwI σ c k x) c k y = zwI σ c k y := by
  unfold zwI
  refine congrArg (fun f => (f, σ.2.1, σ.2.2)) ?_
  funext c' k'
  by_cases h : c' = c ∧ k' = k
  · rw [if_pos h, if_pos h]
  · rw [if_neg h, if_neg h]
    exact if_neg h
theorem q_as {σ τ : zSt} (h : Inv σ τ) (x y : Int32) : ∃ r σ' τ', fX10_as σ x y = some (r, σ') ∧ fX11_as τ x y = some (r, τ') ∧ Inv σ' τ' := by
  have h0 := h.flt (x := 0) (y := 0) rfl
  have h9 := h0
  unfold fX10_as fX11_as
  generalize zwI σ 0 10 0 = σ0 at h0 h9 ⊢
  generalize zwI τ 0 0 0 = τ0 at h0 h9 ⊢
  obtain ⟨n, T, c, kd, td, v, pl, sp, t, tb, tw, th, ts, tm, hA, hT, hC, hW, hU, hR, hX⟩ := h0
  rw [z_int hC, z_intM hC, z_kind, show fX11_within y 0 2 = zIn y 3 from z_wit y (m := 2) (by decide)]
  have hc := hC.1
  rcases zIn_c x (m := c) (by omega) with h | ⟨j, hj, rfl, h⟩
  · rw [h, i00, i00]
    exact ⟨_, _, _, rfl, rfl, h9⟩
  rw [h, i10, i10]
  rcases zIn_c y (m := 3) (by decide) with h | ⟨d, hd, rfl, h⟩
  · rw [h, i00, i00]
    exact ⟨_, _, _, rfl, rfl, h9⟩
  obtain ⟨g1, g2, g3, g4, g5, g6⟩ := hC.2.2.2 j hj
  rw [h, i10, i10, zrI_n (n := 4) (by decide) (by omega), zrI_n (n := 4) (by decide) (by omega), g3, g4]
  simp only [Option.bind_some]
  by_cases e : d ≤ kd j
  · rw [i_le e (by omega), i_nlt e (by omega)]
    exact ⟨_, _, _, rfl, rfl, h9⟩
  · rw [i_nle (by omega) (by omega), i_lt (by omega) (by omega)]
    refine ⟨_, _, _, rfl, rfl, ?_⟩
    unfold fX10_comeTo fX11_fails
    rw [if_neg (by decide)]
    exact h9.flt rfl
theorem q_back {σ τ : zSt} (h : Inv σ τ) (x : Int32) : (fX10_back σ x).1 = (fX11_back τ x).1 ∧ Inv (fX10_back σ x).2 (fX11_back τ x).2 := by
  have h9 := h
  obtain ⟨n, T, c, kd, td, v, pl, sp, t, tb, tw, th, ts, tm, hA, hT, hC, hW, hU, hR, hX⟩ := h
  have ht := hU.1
  unfold fX10_back fX11_back
  rw [hU.2.1, hU.2.2.1, z_wit x (m := t) (by omega)]
  rcases zIn_c x (m := t + 1) (by omega) with h | ⟨j, hj, rfl, h⟩
  · rw [h, i00]
    have h2 := h
    unfold zIn at h2
    by_cases h0 : x < 0
    · rw [if_pos h0]
      exact ⟨rfl, h9⟩
    · rw [if_neg h0] at h2 ⊢
      by_cases h1 : nI (t + 1) ≤ x
      · rw [if_neg (fun q => by
          have q2 := (zlt_succ (m := t) (by omega)).mpr h1
          exact absurd q (Int32.not_le.mpr q2))]
        exact ⟨rfl, h9⟩
      · rw [if_neg h1] at h2
        exact absurd h2 (by decide)
  · rw [h, i10, if_neg (nI_pos (by omega)), i_le (by omega) (by omega), pk_sub (by omega)]
    refine ⟨by rw [zI_self, zI_self], n, T, c, kd, td, v, pl, sp, t - j, tb, tw, th, ts, tm, hA.mv ?_ ?_, hT.mv ?_ ?_ ?_ ?_, hC.mv ?_ ?_ ?_ ?_, hW.mv ?_ ?_ ?_ ?_ hT.2.1, ⟨by omega, zI_self, zI_self, fun q => hU.2.2.2.1 (by omega), ?_⟩, hR.mv rfl rfl rfl rfl ?_ rfl, ?_, ?_⟩
    all_goals first
      | (intros; simp (disch := omega) only [zI_ne, zI_self]; done)
      | (simp (disch := omega) only [zI_ne, zI_self]; first | exact hX.1 | exact hX.2)
      | skip
    intro u hu
    simp (disch := omega) only [zI_ne]
    exact hU.2.2.2.2 u (by omega)
