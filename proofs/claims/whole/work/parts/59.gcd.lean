/-! LEAST TERMS -/
def zrem (x y : Int64) : Int64 := x - x / y * y
def zab (x : Int64) : Nat := x.toInt.natAbs
theorem zab_lt (x : Int64) : zab x ≤ 2 ^ 63 := by
  unfold zab
  have h1 := Int64.toInt_lt x
  have h2 := Int64.le_toInt x
  omega
theorem zab_0 {x : Int64} (h : zab x = 0) : x = 0 := by
  unfold zab at h
  have h2 : x.toInt = 0 := Int.natAbs_eq_zero.mp h
  exact Int64.toInt_inj.mp (h2.trans (by decide))
theorem zab_rem (x y : Int64) (hy : ¬ y = 0) : zab (zrem x y) = zab x % zab y := by
  have h1 := zab_lt x
  have h2 := zab_lt y
  have hy0 : 0 < zab y := Nat.pos_of_ne_zero (fun e => hy (zab_0 e))
  have h3 : (x.toInt.tmod y.toInt).natAbs = zab x % zab y := Int.natAbs_tmod _ _
  have h4 : zab x % zab y < zab y := Nat.mod_lt _ hy0
  unfold zrem
  show (x - x / y * y).toInt.natAbs = _
  rw [Int64.toInt_sub, Int64.toInt_mul, Int64.toInt_div, Int.bmod_mul_bmod, Int.sub_bmod_bmod, Int.mul_comm, ← Int.tmod_def, Int.bmod_eq_of_le (by omega) (by omega)]
  exact h3
/-- the two numbers behind i steps -/
def gst (x y : Int64) : Nat → Int64 × Int64
  | 0 => (x, y)
  | i + 1 => ((gst x y i).2, zrem (gst x y i).1 (gst x y i).2)
theorem gst_2 {x y : Int64} (j : Nat) : ∀ i, gst (gst x y j).1 (gst x y j).2 i = gst x y (j + i)
  | 0 => rfl
  | i + 1 => by
    rw [gst, gst_2 j i]
    rfl
theorem gst_end : ∀ (k : Nat) (x y : Int64), zab y < 2 ^ k → ∃ N, N ≤ 2 * k ∧ (gst x y N).2 = 0 ∧ ∀ i, i < N → ¬ (gst x y i).2 = 0 := by
  intro k
  induction k with
  | zero =>
    intro x y h
    exact ⟨0, by omega, zab_0 (show zab y = 0 by have : (2 : Nat) ^ 0 = 1 := rfl; omega), fun i hi => absurd hi (by omega)⟩
  | succ k ih =>
    intro x y h
    by_cases y0 : y = 0
    · exact ⟨0, by omega, y0, fun i hi => absurd hi (by omega)⟩
    · by_cases y1 : (gst x y 1).2 = 0
      · refine ⟨1, by omega, y1, fun i hi => ?_⟩
        have e : i = 0 := by omega
        subst e
        exact y0
      · have e1 : zab (gst x y 1).2 = zab x % zab y := zab_rem x y y0
        have e2 : zab (gst x y 2).2 = zab y % zab (gst x y 1).2 := zab_rem y _ y1
        have hy0 : 0 < zab y := Nat.pos_of_ne_zero (fun e => y0 (zab_0 e))
        have p1 : 0 < zab (gst x y 1).2 := Nat.pos_of_ne_zero (fun e => y1 (zab_0 e))
        have l1 : zab (gst x y 1).2 < zab y := by rw [e1]; exact Nat.mod_lt _ hy0
        have l2 : zab (gst x y 2).2 < 2 ^ k := by
          rw [e2]
          have l3 := Nat.mod_lt (zab y) p1
          have h2 : 2 ^ (k + 1) = 2 * 2 ^ k := by rw [Nat.pow_succ]; omega
          generalize zab (gst x y 1).2 = r at *
          generalize zab y = b at *
          rcases Nat.lt_or_ge b (2 * r) with q | q
          · have e3 : b % r = b - r := by
              rw [Nat.mod_eq_sub_mod (by omega), Nat.mod_eq_of_lt (by omega)]
            omega
          · omega
        obtain ⟨N, n1, n2, n3⟩ := ih (gst x y 2).1 (gst x y 2).2 l2
        refine ⟨2 + N, by omega, by rw [← gst_2]; exact n2, fun i hi => ?_⟩
        rcases (show i = 0 ∨ i = 1 ∨ 2 ≤ i by omega) with rfl | rfl | h9
        · exact y0
        · exact y1
        · have := n3 (i - 2) (by omega)
          rw [gst_2, show 2 + (i - 2) = i by omega] at this
          exact this
theorem zml_n {x y : Int64} (h : ¬ y = 0) : zml x y = some (zrem x y) := by
  unfold zml
  rw [if_neg h]
  rfl
theorem q_share (up down : Int64) (w : Int32) (hd : ¬ down = 0) : ∃ r, fX10_inLeastTerms up down w = some r ∧ fX11_share up down w = some r := by
  obtain ⟨N, n1, n2, n3⟩ := gst_end 64 up down (by have := zab_lt down; omega)
  have hN0 : N ≠ 0 := fun e => by subst e; exact hd n2
  have hne : ¬ (gst up down N).1 = 0 := by
    obtain ⟨M, rfl⟩ : ∃ M, N = M + 1 := ⟨N - 1, by omega⟩
    exact n3 M (by omega)
  have g1 : fX10_greatestCommon up down = some (gst up down N).1 := by
    unfold fX10_greatestCommon
    rw [zl_run (a := (up, down, (0 : Int32))) (fun i => ((gst up down i).1, (gst up down i).2, nI i)) N (b := ((gst up down N).1, (gst up down N).2, nI N)) rfl ?_ ?_ (by omega)]
    · rfl
    · intro i hi
      show bX10_greatestCommon_9 (gst up down i).1 (gst up down i).2 (nI i) = _
      unfold bX10_greatestCommon_9
      rw [show (200 : Int32) = nI 200 from rfl, i_nle (by omega) (by decide), if_neg (n3 i hi), zml_n (n3 i hi), Option.bind_some, nI_1]
      rfl
    · show bX10_greatestCommon_9 (gst up down N).1 (gst up down N).2 (nI N) = _
      unfold bX10_greatestCommon_9
      rw [show (200 : Int32) = nI 200 from rfl, i_nle (by omega) (by decide), if_pos n2]
  have g2 : zLp (fun a : Int64 × Int64 => bX11_share_6 up down w a.1 a.2) zFU (up, down) = some ((gst up down N).1, (gst up down N).2) := by
    refine zl_run (fun i => ((gst up down i).1, (gst up down i).2)) N rfl (fun i hi => ?_) ?_ (by omega)
    · show bX11_share_6 up down w (gst up down i).1 (gst up down i).2 = _
      unfold bX11_share_6
      rw [if_neg (n3 i hi), zml_n (n3 i hi), Option.bind_some]
      rfl
    · show bX11_share_6 up down w (gst up down N).1 (gst up down N).2 = _
      unfold bX11_share_6
      rw [if_pos n2]
  unfold fX10_inLeastTerms fX11_share
  rw [g1, g2, Option.bind_some, Option.bind_some, if_neg hne]
  unfold zdl
  rw [if_neg hne, if_neg hne]
  by_cases e : w = 0
  · rw [if_pos e]
    exact ⟨_, rfl, rfl⟩
  · rw [if_neg e]
    exact ⟨_, rfl, rfl⟩
