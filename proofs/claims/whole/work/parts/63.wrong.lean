/-! WRONG: how many of the yes turns are true -/
section WRONG
/-- the weights after u turns, and the whole -/
def wgt (th tr : Nat → Nat) : Nat → Nat → Int64
  | 0, k => if k = 0 then 1 else 0
  | u + 1, k => if th u = 0 then wgt th tr u k * (1000 - lN (tr u)) + (if k = 0 then 0 else wgt th tr u (k - 1) * lN (tr u)) else wgt th tr u k
def wgd (th : Nat → Nat) : Nat → Int64
  | 0 => 1
  | u + 1 => if th u = 0 then wgd th u * 1000 else wgd th u
theorem wgd_n (th : Nat → Nat) (u : Nat) : ∃ e, e ≤ u ∧ wgd th u = lN (1000 ^ e) := by
  induction u with
  | zero => exact ⟨0, Nat.le_refl _, rfl⟩
  | succ u ih =>
    obtain ⟨e, h1, h2⟩ := ih
    rw [wgd]
    split
    · exact ⟨e + 1, by omega, by rw [h2, show (1000 : Int64) = lN 1000 from rfl, lN_mul, Nat.pow_succ]⟩
    · exact ⟨e, by omega, h2⟩
theorem wgd_0 : ∀ e, e < 7 → ¬ lN (1000 ^ e) = 0 := by decide +kernel
theorem th_sub {r : Nat} (h : r ≤ 1000) : ((1000 : Int32) - nI r).toInt64 = 1000 - lN r := by
  have : (1000 : Int32) - nI r = nI (1000 - r) := by
    rw [show (1000 : Int32) = nI 1000 from rfl, nI_sub h]
  rw [this, nI_l (by omega), show (1000 : Int64) = lN 1000 from rfl]
  have e : lN 1000 = lN (1000 - r) + lN r := by rw [lN_add]; congr 1; omega
  rw [e]
  simp
end WRONG
