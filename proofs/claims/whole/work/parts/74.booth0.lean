/-! A BOOTH: each once -/
section BOOTH0
def bst (f : Nat → Nat) : Nat → Nat
  | 0 => 0
  | k + 1 => bst f k ||| 2 ^ f k
def bct (s : Nat) : Nat := sm 9 (fun b => if s.testBit b then 1 else 0)
theorem b_or : ∀ b, b < 9 → ∀ s, s < 512 → nI s ||| ((1 : Int32) <<< (nI b &&& 31)) = nI (s ||| 2 ^ b) := by decide +kernel
theorem b_bit : ∀ b, b < 9 → ∀ s, s < 512 → ((nI s >>> (nI b &&& 31)) &&& 1 = (1 : Int32) ↔ s.testBit b = true) := by decide +kernel
theorem b_cnt : ∀ b, b < 9 → ∀ s, s < 512 → bct (s ||| 2 ^ b) = bct s + (if s.testBit b then 0 else 1) := by decide +kernel
theorem b_full : ∀ n, n < 10 → ∀ s, s < 2 ^ n → (bct s = n ↔ s = 2 ^ n - 1) := by decide +kernel
theorem b_all : ∀ n, n < 10 → ((1 : Int32) <<< (nI n &&& 31)) - 1 = nI (2 ^ n - 1) := by decide +kernel
theorem bst_lt {f : Nat → Nat} {n : Nat} (k : Nat) (h : ∀ j, j < k → f j < n) : bst f k < 2 ^ n := by
  induction k with
  | zero => exact Nat.two_pow_pos n
  | succ k ih =>
    show bst f k ||| 2 ^ f k < 2 ^ n
    exact Nat.or_lt_two_pow (ih (fun j hj => h j (by omega))) (Nat.pow_lt_pow_right (by decide) (h k (by omega)))
theorem p9 {n : Nat} (hn : n ≤ 9) : 2 ^ n ≤ 512 := show 2 ^ n ≤ 2 ^ 9 from Nat.pow_le_pow_right (by decide) hn
theorem bct_s {f : Nat → Nat} {n : Nat} (hn : n ≤ 9) (k : Nat) (h : ∀ j, j < k + 1 → f j < n) : bct (bst f (k + 1)) = bct (bst f k) + (if (bst f k).testBit (f k) then 0 else 1) := by
  have l := bst_lt (f := f) (n := n) k (fun j hj => h j (by omega))
  have := p9 hn
  have := h k (by omega)
  exact b_cnt _ (by omega) _ (by omega)
theorem bct_0 : bct 0 = 0 := by decide
theorem bct_all {f : Nat → Nat} {n : Nat} (hn : n ≤ 9) (k : Nat) (h : ∀ j, j < k → f j < n) (hd : ∀ j, j < k → ¬ (bst f j).testBit (f j) = true) : bct (bst f k) = k := by
  induction k with
  | zero => exact bct_0
  | succ k ih =>
    rw [bct_s hn k h, if_neg (hd k (by omega)), ih (fun j hj => h j (by omega)) (fun j hj => hd j (by omega))]
theorem bct_le {f : Nat → Nat} {n : Nat} (hn : n ≤ 9) (k : Nat) (h : ∀ j, j < k → f j < n) : bct (bst f k) ≤ k := by
  induction k with
  | zero => exact Nat.le_of_eq bct_0
  | succ k ih =>
    rw [bct_s hn k h]
    have := ih (fun j hj => h j (by omega))
    split <;> omega
theorem bct_dup {f : Nat → Nat} {n i : Nat} (hn : n ≤ 9) (k : Nat) (h : ∀ j, j < k → f j < n) (hi : i < k) (hd : (bst f i).testBit (f i) = true) : bct (bst f k) < k := by
  induction k with
  | zero => omega
  | succ k ih =>
    rw [bct_s hn k h]
    by_cases e : i = k
    · subst e
      rw [if_pos hd]
      have := bct_le hn i (fun j hj => h j (by omega))
      omega
    · have := ih (fun j hj => h j (by omega)) (by omega)
      split <;> omega
theorem q_each {σ τ : zSt} {k a m : Nat} (hk : k < 4) (ham : a + m ≤ 120) (h1 : 1 ≤ m) (hm : m ≤ 9) (hcell : ∀ i, i < 120 → zI σ (12 + k) i = zI τ 3 (120 * k + i)) : ((∀ i, i < m → ∃ x, x < m ∧ zI σ (12 + k) (a + i) = nI x) ∧ fX0_isEachOnce σ (12 + k) (nI a) (nI m) = some 1 ∧ fX11_isOrder τ (nI (120 * k + a)) (nI m) = some 1) ∨ (fX0_isEachOnce σ (12 + k) (nI a) (nI m) = some 0 ∧ fX11_isOrder τ (nI (120 * k + a)) (nI m) = some 0) := by
  have r1 : ∀ j, j < m → zrI 0 σ (12 + k) (nI (a + j)) = some (zI σ (12 + k) (a + j)) := fun j hj => zrI_n (zkRow k hk) (by omega)
  have r2 : ∀ j, j < m → zrI 1 τ 3 (nI (120 * k + a) + nI j) = some (zI σ (12 + k) (a + j)) := fun j hj => by
    rw [nI_add, zrI_n (n := 480) (by decide) (by omega), hcell _ (by omega), Nat.add_assoc]
  generalize hf : (fun j => (zI σ (12 + k) (a + j)).toNatClampNeg) = f
  have ok : ∀ j, zIn (zI σ (12 + k) (a + j)) m = 1 → zI σ (12 + k) (a + j) = nI (f j) ∧ f j < m := fun j e => by
    rcases zIn_c (zI σ (12 + k) (a + j)) (m := m) (by omega) with e0 | ⟨q, hq, e1, -⟩
    · rw [e0] at e
      exact absurd e (by decide)
    · have : f j = q := by rw [← hf]; show (zI σ (12 + k) (a + j)).toNatClampNeg = q; rw [e1, nI_clamp (by omega)]
      rw [this]
      exact ⟨e1, hq⟩
  have nok : ∀ j, ¬ zIn (zI σ (12 + k) (a + j)) m = 1 → zIn (zI σ (12 + k) (a + j)) m = 0 := fun j e => by
    rcases zIn_c (zI σ (12 + k) (a + j)) (m := m) (by omega) with e0 | ⟨q, hq, e1, e2⟩
    · exact e0
    · exact absurd e2 e
  have bl : ∀ j, j ≤ m → (∀ i, i < j → zIn (zI σ (12 + k) (a + i)) m = 1) → bst f j < 512 := fun j hj e => by
    have := bst_lt (f := f) (n := m) j (fun i hi => (ok i (e i hi)).2)
    have := p9 hm
    omega
  have sM : ∀ j, j < m → (∀ i, i < j + 1 → zIn (zI σ (12 + k) (a + i)) m = 1) → bX11_isOrder_5 τ (nI (120 * k + a)) (nI m) (nI (bst f j)) (nI j) = some (Sum.inl (nI (bst f (j + 1)), nI (j + 1))) := fun j hj e => by
    obtain ⟨e1, e2⟩ := ok j (e j (by omega))
    have b0 := bl j (by omega) (fun i hi => e i (by omega))
    unfold bX11_isOrder_5
    rw [i_nle hj (by omega), r2 j hj, Option.bind_some, Option.bind_some, show (1 : Int32) = nI 1 from rfl, pk_sub h1, z_wit _ (by omega), show m - 1 + 1 = m by omega, e j (by omega), i10, e1, nI_add]
    rw [show nI 1 = (1 : Int32) from rfl, b_or _ (by omega) _ b0]
    rfl
  have sC : ∀ j, j < m → (∀ i, i < j + 1 → zIn (zI σ (12 + k) (a + i)) m = 1) → ¬ (bst f j).testBit (f j) = true → bX0_isEachOnce_5 σ (12 + k) (nI a) (nI m) (nI (bst f j)) (nI (a + j)) = some (Sum.inl (nI (bst f (j + 1)), nI (a + (j + 1)))) := fun j hj e d => by
    obtain ⟨e1, e2⟩ := ok j (e j (by omega))
    have b0 := bl j (by omega) (fun i hi => e i (by omega))
    unfold bX0_isEachOnce_5
    rw [nI_add, i_nle (by omega) (by omega), r1 j hj, Option.bind_some, Option.bind_some, Option.bind_some, Option.bind_some, e1, if_neg (nI_pos (by omega)), i_nle e2 (by omega), if_neg (fun q => d ((b_bit _ (by omega) _ b0).mp q)), b_or _ (by omega) _ b0, nI_1]
    rfl
  by_cases all : ∀ i, i < m → zIn (zI σ (12 + k) (a + i)) m = 1
  · have fl : ∀ j, j < m → f j < m := fun j hj => (ok j (all j hj)).2
    have rM : fX11_isOrder τ (nI (120 * k + a)) (nI m) = if bst f m = 2 ^ m - 1 then some 1 else some 0 := by
      have l := bst_lt (f := f) (n := m) m fl
      have := p9 hm
      unfold fX11_isOrder
      rw [zl_run (body := fun s : Int32 × Int32 => bX11_isOrder_5 τ (nI (120 * k + a)) (nI m) s.1 s.2) (a := ((0 : Int32), (0 : Int32))) (fun j => (nI (bst f j), nI j)) m (b := Sum.inl (nI (bst f m), nI m)) rfl (fun j hj => sM j hj (fun i hi => all i (by omega))) ?_ (by omega), Option.bind_some, zel_l, b_all _ (by omega)]
      · by_cases e : bst f m = 2 ^ m - 1
        · rw [if_pos e, if_pos (show (nI (bst f m), nI m).1 = nI (2 ^ m - 1) from congrArg nI e)]
        · rw [if_neg e, if_neg (show ¬ (nI (bst f m), nI m).1 = nI (2 ^ m - 1) from fun q => e ((nI_eq (by omega) (by omega)).mp q))]
      · show bX11_isOrder_5 τ (nI (120 * k + a)) (nI m) (nI (bst f m)) (nI m) = _
        unfold bX11_isOrder_5
        rw [i_le (Nat.le_refl _) (by omega)]
    by_cases dd : ∀ j, j < m → ¬ (bst f j).testBit (f j) = true
    · refine Or.inl ⟨fun i hi => ⟨f i, fl i hi, (ok i (all i hi)).1⟩, ?_, ?_⟩
      · unfold fX0_isEachOnce
        rw [zl_run (body := fun s : Int32 × Int32 => bX0_isEachOnce_5 σ (12 + k) (nI a) (nI m) s.1 s.2) (a := ((0 : Int32), nI a)) (fun j => (nI (bst f j), nI (a + j))) m (b := Sum.inl (nI (bst f m), nI (a + m))) rfl (fun j hj => sC j hj (fun i hi => all i (by omega)) (dd j hj)) ?_ (by omega), Option.bind_some, zel_l]
        show bX0_isEachOnce_5 σ (12 + k) (nI a) (nI m) (nI (bst f m)) (nI (a + m)) = _
        unfold bX0_isEachOnce_5
        rw [nI_add, i_le (Nat.le_refl _) (by omega)]
      · rw [rM, if_pos ((b_full m (by omega) _ (bst_lt m fl)).mp (bct_all hm m fl dd))]
    · have ex : ∃ i, i < m ∧ (bst f i).testBit (f i) = true := Classical.byContradiction (fun q => dd (fun i hi q2 => q ⟨i, hi, q2⟩))
      obtain ⟨g, ⟨hg, hg1⟩, hg2⟩ := pk_least (fun i => i < m ∧ (bst f i).testBit (f i) = true) ex
      refine Or.inr ⟨?_, ?_⟩
      · unfold fX0_isEachOnce
        rw [zl_run (body := fun s : Int32 × Int32 => bX0_isEachOnce_5 σ (12 + k) (nI a) (nI m) s.1 s.2) (a := ((0 : Int32), nI a)) (fun j => (nI (bst f j), nI (a + j))) g (b := Sum.inr 0) rfl (fun j hj => sC j (by omega) (fun i hi => all i (by omega)) (fun q => hg2 j hj ⟨by omega, q⟩)) ?_ (by omega), Option.bind_some, zel_r]
        show bX0_isEachOnce_5 σ (12 + k) (nI a) (nI m) (nI (bst f g)) (nI (a + g)) = _
        obtain ⟨e1, e2⟩ := ok g (all g hg)
        unfold bX0_isEachOnce_5
        rw [nI_add, i_nle (by omega) (by omega), r1 g hg, Option.bind_some, Option.bind_some, Option.bind_some, e1, if_neg (nI_pos (by omega)), i_nle e2 (by omega), if_pos ((b_bit _ (by omega) _ (bl g (by omega) (fun i hi => all i (by omega)))).mpr hg1)]
      · have lt := bct_dup hm m fl hg hg1
        rw [rM, if_neg (fun q => absurd ((b_full m (by omega) _ (bst_lt m fl)).mpr q) (by omega))]
  · have ex : ∃ i, i < m ∧ ¬ zIn (zI σ (12 + k) (a + i)) m = 1 := Classical.byContradiction (fun q => all (fun i hi => Classical.byContradiction (fun q2 => q ⟨i, hi, q2⟩)))
    have ex2 : ∃ i, i < m ∧ (¬ zIn (zI σ (12 + k) (a + i)) m = 1 ∨ (bst f i).testBit (f i) = true) := by
      obtain ⟨i, h1, h2⟩ := ex
      exact ⟨i, h1, Or.inl h2⟩
    refine Or.inr ⟨?_, ?_⟩
    · obtain ⟨g, ⟨hg, hg1⟩, hg2⟩ := pk_least (fun i => i < m ∧ (¬ zIn (zI σ (12 + k) (a + i)) m = 1 ∨ (bst f i).testBit (f i) = true)) ex2
      have bef : ∀ j, j < g → zIn (zI σ (12 + k) (a + j)) m = 1 := fun j hj => Classical.byContradiction (fun q => hg2 j hj ⟨by omega, Or.inl q⟩)
      unfold fX0_isEachOnce
      rw [zl_run (body := fun s : Int32 × Int32 => bX0_isEachOnce_5 σ (12 + k) (nI a) (nI m) s.1 s.2) (a := ((0 : Int32), nI a)) (fun j => (nI (bst f j), nI (a + j))) g (b := Sum.inr 0) rfl (fun j hj => sC j (by omega) (fun i hi => bef i (by omega)) (fun q => hg2 j hj ⟨by omega, Or.inr q⟩)) ?_ (by omega), Option.bind_some, zel_r]
      show bX0_isEachOnce_5 σ (12 + k) (nI a) (nI m) (nI (bst f g)) (nI (a + g)) = _
      unfold bX0_isEachOnce_5
      rw [nI_add, i_nle (by omega) (by omega), r1 g hg, Option.bind_some, Option.bind_some, Option.bind_some]
      by_cases e : zIn (zI σ (12 + k) (a + g)) m = 1
      · obtain ⟨e1, e2⟩ := ok g e
        rw [e1, if_neg (nI_pos (by omega)), i_nle e2 (by omega), if_pos ((b_bit _ (by omega) _ (bl g (by omega) bef)).mpr (hg1.resolve_left (fun q => q e)))]
      · by_cases n0 : zI σ (12 + k) (a + g) < 0
        · rw [if_pos n0]
        · rw [if_neg n0]
          by_cases n1 : nI m ≤ zI σ (12 + k) (a + g)
          · rw [if_pos n1]
          · exact absurd (show zIn (zI σ (12 + k) (a + g)) m = 1 by unfold zIn; rw [if_neg n0, if_neg n1]) e
    · obtain ⟨g, ⟨hg, hg1⟩, hg2⟩ := pk_least (fun i => i < m ∧ ¬ zIn (zI σ (12 + k) (a + i)) m = 1) ex
      have bef : ∀ j, j < g → zIn (zI σ (12 + k) (a + j)) m = 1 := fun j hj => Classical.byContradiction (fun q => hg2 j hj ⟨by omega, q⟩)
      unfold fX11_isOrder
      rw [zl_run (body := fun s : Int32 × Int32 => bX11_isOrder_5 τ (nI (120 * k + a)) (nI m) s.1 s.2) (a := ((0 : Int32), (0 : Int32))) (fun j => (nI (bst f j), nI j)) g (b := Sum.inr 0) rfl (fun j hj => sM j (by omega) (fun i hi => bef i (by omega))) ?_ (by omega), Option.bind_some, zel_r]
      show bX11_isOrder_5 τ (nI (120 * k + a)) (nI m) (nI (bst f g)) (nI g) = _
      unfold bX11_isOrder_5
      rw [i_nle hg (by omega), r2 g hg, Option.bind_some, show (1 : Int32) = nI 1 from rfl, pk_sub h1, z_wit _ (by omega), show m - 1 + 1 = m by omega, nok g hg1, i00]
end BOOTH0
