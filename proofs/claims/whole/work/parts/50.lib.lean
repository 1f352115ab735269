/-! NUMBERS, READS, LOOPS of the pure programs -/
theorem zl_loop {α β : Type} {body : α → Option (α ⊕ β)} (st : Nat → α) (N : Nat) (b : β) (hs : ∀ i, i < N → body (st i) = some (.inl (st (i + 1)))) (he : body (st N) = some (.inr b)) : ∀ (k i fuel : Nat), i + k = N → k < fuel → zLp body fuel (st i) = some b := by
  intro k
  induction k with
  | zero =>
    intro i fuel h hf
    cases fuel with
    | zero => omega
    | succ f =>
      have hi : i = N := by omega
      subst hi
      simp only [zLp, he]
  | succ k ih =>
    intro i fuel h hf
    cases fuel with
    | zero => omega
    | succ f =>
      simp only [zLp, hs i (by omega)]
      exact ih (i + 1) f (by omega) (by omega)
/-- a loop that goes N times through the states st 0, st 1 .. and then ends with b -/
theorem zl_run {α β : Type} {body : α → Option (α ⊕ β)} (st : Nat → α) (N : Nat) {a : α} {b : β} (ha : st 0 = a) (hs : ∀ i, i < N → body (st i) = some (.inl (st (i + 1)))) (he : body (st N) = some (.inr b)) (hN : N < 1000) : zLp body zFU a = some b := by
  rw [← ha]
  exact zl_loop st N b hs he N 0 zFU (by omega) hN
/-- the same with a relation: what the states satisfy -/
theorem zl_rel {α β : Type} {body : α → Option (α ⊕ β)} (I : Nat → α → Prop) (N : Nat) (E : β → Prop) (hs : ∀ i a, i < N → I i a → ∃ a', body a = some (.inl a') ∧ I (i + 1) a') (he : ∀ a, I N a → ∃ b, body a = some (.inr b) ∧ E b) : ∀ (k i fuel : Nat) (a : α), i + k = N → k < fuel → I i a → ∃ b, zLp body fuel a = some b ∧ E b := by
  intro k
  induction k with
  | zero =>
    intro i fuel a h hf hI
    cases fuel with
    | zero => omega
    | succ f =>
      have hi : i = N := by omega
      subst hi
      obtain ⟨b, h1, h2⟩ := he a hI
      exact ⟨b, by simp only [zLp, h1], h2⟩
  | succ k ih =>
    intro i fuel a h hf hI
    cases fuel with
    | zero => omega
    | succ f =>
      obtain ⟨a', h1, h2⟩ := hs i a (by omega) hI
      obtain ⟨b, h3, h4⟩ := ih (i + 1) f a' (by omega) (by omega) h2
      exact ⟨b, by simp only [zLp, h1]; exact h3, h4⟩
theorem zl_inv {α β : Type} {body : α → Option (α ⊕ β)} (I : Nat → α → Prop) (N : Nat) (E : β → Prop) {a : α} (h0 : I 0 a) (hs : ∀ i a, i < N → I i a → ∃ a', body a = some (.inl a') ∧ I (i + 1) a') (he : ∀ a, I N a → ∃ b, body a = some (.inr b) ∧ E b) (hN : N < 1000) : ∃ b, zLp body zFU a = some b ∧ E b :=
  zl_rel I N E hs he N 0 zFU a (by omega) hN h0
theorem zlit (n : Nat) : (OfNat.ofNat n : Int32) = nI n := rfl
theorem zlitL (n : Nat) : (OfNat.ofNat n : Int64) = lN n := rfl
theorem i_le {a b : Nat} {α : Sort _} {x y : α} (h : a ≤ b) (hb : b < 2 ^ 31) : (if nI a ≤ nI b then x else y) = x := if_pos (nI_le h hb)
theorem i_nle {a b : Nat} {α : Sort _} {x y : α} (h : b < a) (ha : a < 2 ^ 31) : (if nI a ≤ nI b then x else y) = y := if_neg (nI_ge h ha)
theorem i_lt {a b : Nat} {α : Sort _} {x y : α} (h : a < b) (hb : b < 2 ^ 31) : (if nI a < nI b then x else y) = x := if_pos (nI_lt h hb)
theorem i_nlt {a b : Nat} {α : Sort _} {x y : α} (h : b ≤ a) (ha : a < 2 ^ 31) : (if nI a < nI b then x else y) = y := if_neg (nI_nlt h ha)
theorem i_eq {a b : Nat} {α : Sort _} {x y : α} (h : a = b) : (if nI a = nI b then x else y) = x := if_pos (by rw [h])
theorem i_ne {a b : Nat} {α : Sort _} {x y : α} (h : a ≠ b) (ha : a < 2 ^ 31) (hb : b < 2 ^ 31) : (if nI a = nI b then x else y) = y := if_neg (fun q => h ((nI_eq ha hb).mp q))
theorem nI_m1 {a : Nat} (h : a < 2 ^ 31) : ¬ nI a = -1 := fun q => by
  have h1 := congrArg Int32.toInt q
  rw [nI_toInt h] at h1
  have h2 : (-1 : Int32).toInt = -1 := by decide
  omega
theorem nI_m9 {a : Nat} (h : a < 2 ^ 31) : ¬ nI a = -9 := fun q => by
  have h1 := congrArg Int32.toInt q
  rw [nI_toInt h] at h1
  have h2 : (-9 : Int32).toInt = -9 := by decide
  omega
theorem zI_ne {σ : zSt} {c k c' k' : Nat} {v : Int32} (h : ¬ (c' = c ∧ k' = k)) : zI (zwI σ c k v) c' k' = zI σ c' k' := by rw [zI_wI, if_neg h]
theorem zI_self {σ : zSt} {c k : Nat} {v : Int32} : zI (zwI σ c k v) c k = v := by rw [zI_wI, if_pos ⟨rfl, rfl⟩]
theorem zJ_ne {σ : zSt} {c k c' k' : Nat} {v : Int64} (h : ¬ (c' = c ∧ k' = k)) : zJ (zwJ σ c k v) c' k' = zJ σ c' k' := by rw [zJ_wJ, if_neg h]
theorem zJ_self {σ : zSt} {c k : Nat} {v : Int64} : zJ (zwJ σ c k v) c k = v := by rw [zJ_wJ, if_pos ⟨rfl, rfl⟩]
theorem zR_ne {σ : zSt} {c k c' k' : Nat} {v : Nat} (h : ¬ (c' = c ∧ k' = k)) : zR (zwR σ c k v) c' k' = zR σ c' k' := by rw [zR_wR, if_neg h]
theorem zR_self {σ : zSt} {c k : Nat} {v : Nat} : zR (zwR σ c k v) c k = v := by rw [zR_wR, if_pos ⟨rfl, rfl⟩]
abbrev zkI (w j n : Nat) : Prop := znO w ≤ j ∧ j < zN w ∧ zak w j = 0 ∧ zlen w j = n
abbrev zkJ (w j n : Nat) : Prop := znO w ≤ j ∧ j < zN w ∧ zak w j = 1 ∧ zlen w j = n
abbrev zkA (w j n : Nat) : Prop := znO w ≤ j ∧ j < zN w ∧ zak w j = 2 ∧ zlen w j = n
theorem zrI_n {w j n k : Nat} {σ : zSt} (h : zkI w j n) (hk : k < n) (hn : n ≤ 20000 := by decide) : zrI w σ j (nI k) = some (zI σ j k) := by
  have e : (nI k).toNatClampNeg = k := nI_clamp (by omega)
  unfold zrI
  rw [if_pos ⟨h.1, h.2.1, h.2.2.1, nI_pos (by omega), by rw [e, h.2.2.2]; exact hk⟩, e]
theorem zrJ_n {w j n k : Nat} {σ : zSt} (h : zkJ w j n) (hk : k < n) (hn : n ≤ 20000 := by decide) : zrJ w σ j (nI k) = some (zJ σ j k) := by
  have e : (nI k).toNatClampNeg = k := nI_clamp (by omega)
  unfold zrJ
  rw [if_pos ⟨h.1, h.2.1, h.2.2.1, nI_pos (by omega), by rw [e, h.2.2.2]; exact hk⟩, e]
theorem zrA_n {w j n k : Nat} (h : zkA w j n) (hk : k < n) (hn : n ≤ 20000 := by decide) : zrA w j (nI k) = some (j + 1 + k) := by
  have e : (nI k).toNatClampNeg = k := nI_clamp (by omega)
  unfold zrA
  rw [if_pos ⟨h.1, h.2.1, h.2.2.1, nI_pos (by omega), by rw [e, h.2.2.2]; exact hk⟩, e]
theorem zsI_n {w j n k : Nat} {σ : zSt} {v : Int32} (h : zkI w j n) (hk : k < n) (hn : n ≤ 20000 := by decide) : zsI w σ j (nI k) v = some (zwI σ j k v) := by
  have e : (nI k).toNatClampNeg = k := nI_clamp (by omega)
  unfold zsI
  rw [if_pos ⟨h.1, h.2.1, h.2.2.1, nI_pos (by omega), by rw [e, h.2.2.2]; exact hk⟩, e]
theorem zsJ_n {w j n k : Nat} {σ : zSt} {v : Int64} (h : zkJ w j n) (hk : k < n) (hn : n ≤ 20000 := by decide) : zsJ w σ j (nI k) v = some (zwJ σ j k v) := by
  have e : (nI k).toNatClampNeg = k := nI_clamp (by omega)
  unfold zsJ
  rw [if_pos ⟨h.1, h.2.1, h.2.2.1, nI_pos (by omega), by rw [e, h.2.2.2]; exact hk⟩, e]
theorem zkRow : ∀ r, r < 4 → zkI 0 (12 + r) 120 := by decide
theorem zkDig : ∀ r, r < 12 → zkI 0 (19 + r) 6 := by decide
theorem zkTold : ∀ r, r < 12 → zkI 0 (33 + r) 7 := by decide
theorem zkTimes : ∀ r, r < 6 → zkI 0 (49 + r) 7 := by decide
theorem zkThere : ∀ r, r < 6 → zkI 0 (56 + r) 6 := by decide
theorem zkHome : ∀ r, r < 6 → zkI 0 (63 + r) 6 := by decide
theorem zkLine : ∀ r, r < 6 → zkI 0 (73 + r) 6 := by decide
/-! sums -/
def sm (n : Nat) (f : Nat → Nat) : Nat := match n with
  | 0 => 0
  | n + 1 => sm n f + f n
theorem sm_congr {n : Nat} {f g : Nat → Nat} (h : ∀ i, i < n → f i = g i) : sm n f = sm n g := by
  induction n with
  | zero => rfl
  | succ n ih => rw [sm, sm, ih (fun i hi => h i (by omega)), h n (by omega)]
theorem sm_le {n : Nat} {f g : Nat → Nat} (h : ∀ i, i < n → f i ≤ g i) : sm n f ≤ sm n g := by
  induction n with
  | zero => exact Nat.le_refl _
  | succ n ih => rw [sm, sm]; exact Nat.add_le_add (ih (fun i hi => h i (by omega))) (h n (by omega))
theorem sm_mul {n : Nat} {f : Nat → Nat} {k : Nat} : sm n (fun i => f i * k) = sm n f * k := by
  induction n with
  | zero => simp [sm]
  | succ n ih => rw [sm, sm, ih, Nat.add_mul]
theorem sm_mull {n : Nat} {f : Nat → Nat} {k : Nat} : sm n (fun i => k * f i) = k * sm n f := by
  induction n with
  | zero => simp [sm]
  | succ n ih => rw [sm, sm, ih, Nat.mul_add]
theorem sm_add {n : Nat} {f g : Nat → Nat} : sm n (fun i => f i + g i) = sm n f + sm n g := by
  induction n with
  | zero => rfl
  | succ n ih => rw [sm, sm, sm, ih]; omega
theorem sm_zero {n : Nat} {f : Nat → Nat} (h : ∀ i, i < n → f i = 0) : sm n f = 0 := by
  induction n with
  | zero => rfl
  | succ n ih => rw [sm, ih (fun i hi => h i (by omega)), h n (by omega)]
theorem sm_swap {n m : Nat} {f : Nat → Nat → Nat} : sm n (fun i => sm m (fun j => f i j)) = sm m (fun j => sm n (fun i => f i j)) := by
  induction n with
  | zero => exact (sm_zero (fun _ _ => rfl)).symm
  | succ n ih =>
    rw [sm, ih]
    rw [← sm_add]
    rfl
theorem sm_at {n k : Nat} {f : Nat → Nat} (h : k < n) : f k ≤ sm n f := by
  induction n with
  | zero => omega
  | succ n ih =>
    rw [sm]
    by_cases hk : k = n
    · subst hk; omega
    · have := ih (by omega); omega
theorem sm_one {n k : Nat} {f : Nat → Nat} (hk : k < n) (h : ∀ i, i < n → i ≠ k → f i = 0) : sm n f = f k := by
  induction n with
  | zero => omega
  | succ n ih =>
    rw [sm]
    by_cases e : k = n
    · subst e
      rw [sm_zero (fun i hi => h i (by omega) (by omega))]
      omega
    · rw [ih (by omega) (fun i hi hn => h i (by omega) hn), h n (by omega) (fun q => e q.symm)]
      rfl
/-- the least place of the greatest of the first n -/
def amx (n : Nat) (f : Nat → Nat) : Nat := match n with
  | 0 => 0
  | n + 1 => if f (amx n f) < f n then n else amx n f
theorem amx_lt {n : Nat} {f : Nat → Nat} (h : 0 < n) : amx n f < n := by
  induction n with
  | zero => omega
  | succ n ih =>
    rw [amx]
    by_cases e : f (amx n f) < f n
    · rw [if_pos e]; omega
    · rw [if_neg e]
      by_cases hn : n = 0
      · subst hn; simp [amx]
      · have := ih (by omega); omega
theorem amx_1 {f : Nat → Nat} : amx 1 f = 0 := by simp [amx]
theorem amx_congr {n : Nat} {f g : Nat → Nat} (h : ∀ i, i < n → f i = g i) : amx n f = amx n g := by
  induction n with
  | zero => rfl
  | succ n ih =>
    by_cases hn : n = 0
    · subst hn
      rw [amx_1, amx_1]
    · have e := ih (fun i hi => h i (by omega))
      have hl := amx_lt (n := n) (f := g) (by omega)
      have e1 : f (amx n f) = g (amx n g) := by rw [e]; exact h _ (by omega)
      have e2 : f n = g n := h n (by omega)
      show (if f (amx n f) < f n then n else amx n f) = (if g (amx n g) < g n then n else amx n g)
      by_cases q : g (amx n g) < g n
      · rw [if_pos q, if_pos (by omega)]
      · rw [if_neg q, if_neg (by omega), e]
/-! what the system is made of, as numbers -/
def rowOK (n : Nat) (r : Nat → Nat) : Prop := (∀ b, b < n → r b ≤ 9) ∧ 1 ≤ sm n r ∧ sm n r ≤ 12
/-- of twelve times, by a kind, ahead of being tired -/
def pln (n kind : Nat) (r : Nat → Nat) (b : Nat) : Nat :=
  if b = amx n r then r b + sm n (fun k => if k = amx n r then 0 else if kind = 0 then 0 else r k - r k / 2) + (if kind = 2 then 12 - sm n r else 0)
  else if kind = 0 then r b else r b / 2
/-- of 144 times -/
def crr (n kind tired : Nat) (r : Nat → Nat) (b : Nat) : Nat := pln n kind r b * (12 - tired)
def ans (pl : Nat) (sp : Nat → Nat → Nat) (a b : Nat) : Nat := sp a b * (12 - pl) + (if b = 0 then 12 * pl else 0)
/-- how often, of 144 * 144 * 144: a question a, h is heard, behind what reached him (set P), what he said (set Q) -/
def tms (n : Nat) (T : Nat → Nat → Nat → Nat) (pl : Nat) (sp : Nat → Nat → Nat) (kind tired a h : Nat) (P Q : Nat → Bool) : Nat := sm n (fun r => if P r then sm n (fun q => if Q q then crr n kind tired (T 0 a) r * ans pl sp r q * crr n kind tired (T 1 q) h else 0) else 0)
def tru (n : Nat) (T : Nat → Nat → Nat → Nat) (pl : Nat) (sp : Nat → Nat → Nat) (kind a h : Nat) : Nat := 1000 * tms n T pl sp kind 0 a h (fun _ => true) (fun q => amx n (T 1 q) == h) / tms n T pl sp kind 0 a h (fun _ => true) (fun _ => true)
