/-! SHIFTS, as numbers: the least cost and the row that has it -/
section SHIFT0
def lcs (l w c : Nat) : Nat := if l = 2 then 0 else if l = w then 0 else c
def lct (k a b l c : Nat) : Nat := match k with
  | 0 => 0
  | k + 1 => min (a + lcs l 0 c + lct k (sMo a) (b - 1) 0 c) (b + lcs l 1 c + lct k (a - 1) (sMo b) 1 c)
def lgb (k a b l c : Nat) : Nat := match k with
  | 0 => 0
  | k + 1 => if a + lcs l 0 c + lct k (sMo a) (b - 1) 0 c ≤ b + lcs l 1 c + lct k (a - 1) (sMo b) 1 c then lgb k (sMo a) (b - 1) 0 c else 2 ^ k + lgb k (a - 1) (sMo b) 1 c
theorem lgb_lt (k : Nat) : ∀ a b l c, lgb k a b l c < 2 ^ k := by
  induction k with
  | zero => intro a b l c; exact Nat.one_pos
  | succ k ih =>
    intro a b l c
    unfold lgb
    have h1 := ih (sMo a) (b - 1) 0 c
    have h2 := ih (a - 1) (sMo b) 1 c
    rw [Nat.pow_succ]
    split <;> omega
theorem sMo_le {a : Nat} : sMo a ≤ 9 := by unfold sMo; split <;> omega
theorem lcs_le {l w c : Nat} (hc : c ≤ 9) : lcs l w c ≤ 9 := by unfold lcs; split <;> (try split) <;> omega
theorem lct_le (k : Nat) : ∀ a b l c, a ≤ 9 → b ≤ 9 → c ≤ 9 → lct k a b l c ≤ 18 * k := by
  induction k with
  | zero => intro a b l c _ _ _; exact Nat.le_refl _
  | succ k ih =>
    intro a b l c ha hb hc
    unfold lct
    have h1 := ih (sMo a) (b - 1) 0 c sMo_le (by omega) hc
    have h2 := lcs_le (l := l) (w := 0) hc
    omega
theorem pck_min {x0 x1 g0 g1 k : Nat} (hk : k + 1 ≤ 40) (h0 : g0 < 2 ^ k) (h1 : g1 < 2 ^ k) : min (x0 * 2 ^ 40 + g0) (x1 * 2 ^ 40 + 2 ^ k + g1) = min x0 x1 * 2 ^ 40 + (if x0 ≤ x1 then g0 else 2 ^ k + g1) := by
  have p1 : 2 ^ (k + 1) ≤ 2 ^ 40 := Nat.pow_le_pow_right (by decide) hk
  rw [Nat.pow_succ] at p1
  generalize 2 ^ k = K at *
  by_cases e : x0 ≤ x1
  · rw [if_pos e, Nat.min_eq_left e]
    have : x0 * 2 ^ 40 ≤ x1 * 2 ^ 40 := Nat.mul_le_mul_right _ e
    omega
  · rw [if_neg e, Nat.min_eq_right (by omega)]
    have : (x1 + 1) * 2 ^ 40 ≤ x0 * 2 ^ 40 := Nat.mul_le_mul_right _ (by omega)
    omega
theorem sPk_pack (k : Nat) : ∀ a b l c, k ≤ 40 → l < 2 → sPk k a b l c = lct k a b l c * 2 ^ 40 + lgb k a b l c := by
  induction k with
  | zero => intro a b l c _ _; unfold sPk lct lgb; rw [Nat.zero_mul]
  | succ k ih =>
    intro a b l c hk hl
    have e0 : (if l = 0 then 0 else c) = lcs l 0 c := by unfold lcs; rw [if_neg (show ¬ l = 2 by omega)]
    have e1 : (if l = 1 then 0 else c) = lcs l 1 c := by unfold lcs; rw [if_neg (show ¬ l = 2 by omega)]
    unfold sPk lct lgb
    rw [ih _ _ _ _ (by omega) (by decide), ih _ _ _ _ (by omega) (by decide), e0, e1, ← pck_min hk (lgb_lt k _ _ _ _) (lgb_lt k _ _ _ _)]
    omega
theorem sPv_pack {a b m c : Nat} (h1 : 1 ≤ m) (h2 : m ≤ 40) : sPv a b m c = lct m a b 2 c * 2 ^ 40 + lgb m a b 2 c := by
  obtain ⟨k, rfl⟩ : ∃ k, m = k + 1 := ⟨m - 1, by omega⟩
  unfold sPv lct lgb
  rw [show k + 1 - 1 = k by omega, sPk_pack k _ _ _ _ (by omega) (by decide), sPk_pack k _ _ _ _ (by omega) (by decide), ← pck_min h2 (lgb_lt k _ _ _ _) (lgb_lt k _ _ _ _)]
  rw [show lcs 2 0 c = 0 from rfl, show lcs 2 1 c = 0 from rfl]
  omega
theorem sPv_lt {a b m c : Nat} (ha : a ≤ 9) (hb : b ≤ 9) (hc : c ≤ 9) (h1 : 1 ≤ m) (h2 : m ≤ 40) : sPv a b m c < 2 ^ 51 := by
  rw [sPv_pack h1 h2]
  have e1 := lct_le m a b 2 c ha hb hc
  have e2 := lgb_lt m a b 2 c
  have e3 : 2 ^ m ≤ 2 ^ 40 := Nat.pow_le_pow_right (by decide) h2
  omega
/-- who works in minute i of m, as the row of the greedy walk says -/
def lwk : Nat → Nat → Nat → Nat → Nat → Nat → Nat × Nat × Nat
  | _, a, b, l, _, 0 => (a, b, l)
  | m, a, b, l, c, i + 1 =>
    let s := lwk m a b l c i
    if s.1 + lcs s.2.2 0 c + lct (m - i - 1) (sMo s.1) (s.2.1 - 1) 0 c ≤ s.2.1 + lcs s.2.2 1 c + lct (m - i - 1) (s.1 - 1) (sMo s.2.1) 1 c then (sMo s.1, s.2.1 - 1, 0) else (s.1 - 1, sMo s.2.1, 1)
theorem lwk_l {m a b l c i : Nat} : (lwk m a b l c (i + 1)).2.2 < 2 := by
  unfold lwk
  dsimp only
  split
  · exact (by decide : (0 : Nat) < 2)
  · exact (by decide : (1 : Nat) < 2)
theorem lwk_le {m a b l c i : Nat} (ha : a ≤ 9) (hb : b ≤ 9) : (lwk m a b l c i).1 ≤ 9 ∧ (lwk m a b l c i).2.1 ≤ 9 := by
  induction i with
  | zero => exact ⟨ha, hb⟩
  | succ i ih =>
    unfold lwk
    dsimp only
    have := sMo_le (a := (lwk m a b l c i).1)
    have := sMo_le (a := (lwk m a b l c i).2.1)
    split
    · exact ⟨by assumption, by show (lwk m a b l c i).2.1 - 1 ≤ 9; omega⟩
    · exact ⟨by show (lwk m a b l c i).1 - 1 ≤ 9; omega, by assumption⟩
theorem lgb_bits {m a b l c : Nat} (i : Nat) (hi : i ≤ m) : ∃ h, lgb m a b l c = h * 2 ^ (m - i) + lgb (m - i) (lwk m a b l c i).1 (lwk m a b l c i).2.1 (lwk m a b l c i).2.2 c ∧ (0 < i → h % 2 = (lwk m a b l c i).2.2) := by
  induction i with
  | zero => exact ⟨0, by simp [lwk], fun h => absurd h (Nat.lt_irrefl _)⟩
  | succ i ih =>
    obtain ⟨h, e, -⟩ := ih (by omega)
    obtain ⟨k, hk⟩ : ∃ k, m - i = k + 1 := ⟨m - i - 1, by omega⟩
    rw [hk] at e
    have hk1 : m - (i + 1) = k := by omega
    have hk2 : m - i - 1 = k := by omega
    rw [hk1]
    unfold lwk
    dsimp only
    rw [hk2]
    rw [e]
    unfold lgb
    generalize hs : lwk m a b l c i = s
    by_cases q : s.1 + lcs s.2.2 0 c + lct k (sMo s.1) (s.2.1 - 1) 0 c ≤ s.2.1 + lcs s.2.2 1 c + lct k (s.1 - 1) (sMo s.2.1) 1 c
    · rw [if_pos q, if_pos q]
      refine ⟨2 * h, ?_, fun _ => by show 2 * h % 2 = 0; omega⟩
      rw [Nat.pow_succ, Nat.mul_comm (2 ^ k) 2, ← Nat.mul_assoc, Nat.mul_comm h 2]
      cases k <;> rfl
    · rw [if_neg q, if_neg q]
      refine ⟨2 * h + 1, ?_, fun _ => by show (2 * h + 1) % 2 = 1; omega⟩
      rw [Nat.pow_succ, Nat.mul_comm (2 ^ k) 2, ← Nat.mul_assoc, Nat.mul_comm h 2, Nat.add_mul, Nat.one_mul, Nat.add_assoc]
      cases k <;> rfl
end SHIFT0
