/-! A BOOTH: the ticks -/
section BOOTH1
/-- the tick in which word k is said -/
def btk (f : Nat → Nat) : Nat → Nat
  | 0 => f 0
  | k + 1 => if f (k + 1) ≤ btk f k then btk f k + 1 else f (k + 1)
theorem btk_s (f : Nat → Nat) (k : Nat) : btk f k < btk f (k + 1) := by
  show btk f k < if f (k + 1) ≤ btk f k then btk f k + 1 else f (k + 1)
  split <;> omega
theorem btk_f (f : Nat → Nat) (k : Nat) : f k ≤ btk f k := by
  cases k with
  | zero => exact Nat.le_refl _
  | succ k =>
    show f (k + 1) ≤ if f (k + 1) ≤ btk f k then btk f k + 1 else f (k + 1)
    split <;> omega
theorem btk_mono (f : Nat → Nat) {j k : Nat} (h : j ≤ k) : btk f j ≤ btk f k := by
  induction k with
  | zero => rw [show j = 0 by omega]; exact Nat.le_refl _
  | succ k ih =>
    by_cases e : j = k + 1
    · rw [e]; exact Nat.le_refl _
    · have := ih (by omega)
      have := btk_s f k
      omega
theorem btk_ge (f : Nat → Nat) (k : Nat) : k ≤ btk f k := by
  induction k with
  | zero => exact Nat.zero_le _
  | succ k ih => have := btk_s f k; omega
theorem btk_le {f : Nat → Nat} {n : Nat} (k : Nat) (h : ∀ j, j ≤ k → f j < n) : btk f k + 1 ≤ n + k := by
  induction k with
  | zero => have := h 0 (by omega); show f 0 + 1 ≤ n + 0; omega
  | succ k ih =>
    have := ih (fun j hj => h j (by omega))
    have := h (k + 1) (by omega)
    show (if f (k + 1) ≤ btk f k then btk f k + 1 else f (k + 1)) + 1 ≤ n + (k + 1)
    split <;> omega
def bbh (f : Nat → Nat) : Nat → Nat
  | 0 => 0
  | k + 1 => if bbh f k < btk f k - f k then btk f k - f k else bbh f k
theorem bbh_le {f : Nat → Nat} {n : Nat} (k : Nat) (h : ∀ j, j < k → f j < n) : bbh f k ≤ n + k := by
  induction k with
  | zero => exact Nat.zero_le _
  | succ k ih =>
    have := ih (fun j hj => h j (by omega))
    have := btk_le k (fun j hj => h j (by omega))
    show (if bbh f k < btk f k - f k then btk f k - f k else bbh f k) ≤ n + (k + 1)
    split <;> omega
/-- how many of the first n are said by tick T -/
def bcn (f : Nat → Nat) (T n : Nat) : Nat := sm n (fun j => if btk f j ≤ T then 1 else 0)
theorem bcn_le (f : Nat → Nat) (T n : Nat) : bcn f T n ≤ n := by
  unfold bcn
  induction n with
  | zero => exact Nat.le_refl _
  | succ n ih => rw [sm]; split <;> omega
theorem bcn_is (f : Nat → Nat) {T s : Nat} (n : Nat) (hs : s ≤ n) (h1 : ∀ j, j < s → btk f j ≤ T) (h2 : s < n → T < btk f s) : bcn f T n = s := by
  unfold bcn
  induction n with
  | zero => rw [sm]; omega
  | succ n ih =>
    rw [sm]
    by_cases e : s = n + 1
    · subst e
      rw [if_pos (h1 n (by omega))]
      have : sm n (fun j => if btk f j ≤ T then 1 else 0) = n := by
        clear ih h2 hs
        induction n with
        | zero => rfl
        | succ n ih => rw [sm, if_pos (h1 n (by omega)), ih (fun j hj => h1 j (by omega))]
      rw [this]
    · have := h2 (by omega)
      have := btk_mono f (j := s) (k := n) (by omega)
      rw [if_neg (by omega)]
      by_cases e2 : s = n
      · subst e2
        have : sm s (fun j => if btk f j ≤ T then 1 else 0) = s := by
          clear ih h2 hs e
          have key : ∀ m, m ≤ s → sm m (fun j => if btk f j ≤ T then 1 else 0) = m := by
            intro m
            induction m with
            | zero => intro _; rfl
            | succ m ih => intro hm; rw [sm, if_pos (h1 m (by omega)), ih (by omega)]
          exact key s (Nat.le_refl _)
        rw [this, Nat.add_zero]
      · rw [ih (by omega) (fun _ => by omega), Nat.add_zero]
theorem bcn_T (f : Nat → Nat) (T n : Nat) : bcn f T n ≤ T + 1 := by
  unfold bcn
  have key : ∀ n, sm n (fun j => if btk f j ≤ T then 1 else 0) ≤ (if n ≤ T + 1 then n else T + 1) := by
    intro n
    induction n with
    | zero => exact Nat.zero_le _
    | succ n ih =>
      rw [sm]
      have := btk_ge f n
      by_cases e : btk f n ≤ T
      · rw [if_pos e]
        split <;> (split at ih <;> omega)
      · rw [if_neg e]
        split <;> (split at ih <;> omega)
  have := key n
  split at this <;> omega
/-- the most held by tick T -/
def bhm (f : Nat → Nat) (n : Nat) : Nat → Nat
  | 0 => 0
  | T + 1 => if bhm f n T < min (T + 1) n - bcn f T n then min (T + 1) n - bcn f T n else bhm f n T
theorem bhm_le (f : Nat → Nat) (n T : Nat) : bhm f n T ≤ n := by
  induction T with
  | zero => exact Nat.zero_le _
  | succ T ih =>
    show (if bhm f n T < min (T + 1) n - bcn f T n then min (T + 1) n - bcn f T n else bhm f n T) ≤ n
    split <;> omega
theorem m_held1 {τ : zSt} {f : Nat → Nat} {n T : Nat} (hn : n ≤ 9) (hT : T < 100) (hs : ∀ k, k < n → btk f k < 100 ∧ zI τ 18 k = nI (btk f k)) (x y : Int32) : zLp (fun a : Int32 × Int32 => bX11_held_30 τ (nI n) x y (nI T) a.1 a.2) zFU (nI (min (T + 1) n), (0 : Int32)) = some (nI (min (T + 1) n - bcn f T n), nI n) := by
  have c1 : ∀ k, k ≤ n → bcn f T k ≤ min (T + 1) n := fun k hk => by
    have := bcn_le f T k
    have := bcn_T f T k
    omega
  refine zl_run (fun k => (nI (min (T + 1) n - bcn f T k), nI k)) n rfl (fun k hk => ?_) ?_ (by omega)
  · show bX11_held_30 τ (nI n) x y (nI T) (nI (min (T + 1) n - bcn f T k)) (nI k) = _
    have c2 := c1 (k + 1) (by omega)
    have st : bcn f T (k + 1) = bcn f T k + (if btk f k ≤ T then 1 else 0) := rfl
    unfold bX11_held_30
    rw [i_nle hk (by omega), zrI_n (n := 9) (by decide) (by omega), Option.bind_some, (hs k hk).2]
    have := (hs k hk).1
    by_cases e : btk f k ≤ T
    · rw [if_pos e] at st
      rw [i_nlt e (by omega), show (1 : Int32) = nI 1 from rfl, pk_sub (by omega), nI_add, st, Nat.sub_sub]
    · rw [if_neg e, Nat.add_zero (bcn f T k)] at st
      rw [i_lt (by omega) (by omega), Int32.sub_zero, nI_1, st]
  · show bX11_held_30 τ (nI n) x y (nI T) (nI (min (T + 1) n - bcn f T n)) (nI n) = _
    unfold bX11_held_30
    rw [i_le (Nat.le_refl _) (by omega)]
theorem m_held {τ : zSt} {f : Nat → Nat} {n E : Nat} (hn : n ≤ 9) (hE : E < 100) (hs : ∀ k, k < n → btk f k < 100 ∧ zI τ 18 k = nI (btk f k)) : fX11_held τ (nI n) (nI E) = some (nI (bhm f n (E + 1))) := by
  unfold fX11_held
  rw [zl_run (body := fun a : Int32 × Int32 => bX11_held_5 τ (nI n) (nI E) a.1 a.2) (a := ((0 : Int32), (0 : Int32))) (fun T => (nI (bhm f n T), nI T)) (E + 1) (b := (nI (bhm f n (E + 1)), nI (E + 1))) rfl (fun T hT => ?_) ?_ (by omega), Option.bind_some]
  · show bX11_held_5 τ (nI n) (nI E) (nI (bhm f n (E + 1))) (nI (E + 1)) = _
    unfold bX11_held_5
    rw [i_lt (by omega) (by omega)]
  · show bX11_held_5 τ (nI n) (nI E) (nI (bhm f n T)) (nI T) = _
    have h1 := m_held1 (τ := τ) (f := f) (n := n) (T := T) hn (by omega) hs (nI E) (nI (bhm f n T))
    have b1 := bhm_le f n T
    have st : bhm f n (T + 1) = if bhm f n T < min (T + 1) n - bcn f T n then min (T + 1) n - bcn f T n else bhm f n T := rfl
    unfold bX11_held_5
    rw [i_nlt (by omega) (by omega), nI_1]
    by_cases e : n ≤ T
    · rw [i_le e (by omega)]
      rw [show min (T + 1) n = n by omega] at h1 st
      rw [h1, Option.bind_some]
      by_cases q : bhm f n T < n - bcn f T n
      · rw [if_pos q] at st
        rw [if_neg (show ¬ (nI (n - bcn f T n), nI n).1 ≤ nI (bhm f n T) from nI_ge q (by omega)), st]
      · rw [if_neg q] at st
        rw [if_pos (show (nI (n - bcn f T n), nI n).1 ≤ nI (bhm f n T) from nI_le (by omega) (by omega)), st]
    · rw [i_nle (by omega) (by omega)]
      rw [show min (T + 1) n = T + 1 by omega] at h1 st
      rw [h1, Option.bind_some]
      by_cases q : bhm f n T < T + 1 - bcn f T n
      · rw [if_pos q] at st
        rw [if_neg (show ¬ (nI (T + 1 - bcn f T n), nI n).1 ≤ nI (bhm f n T) from nI_ge q (by omega)), st]
      · rw [if_neg q] at st
        rw [if_pos (show (nI (T + 1 - bcn f T n), nI n).1 ≤ nI (bhm f n T) from nI_le (by omega) (by omega)), st]
/-- the last said tick, as a number: -1 ahead of all -/
def btq (f : Nat → Nat) : Nat → Int32
  | 0 => -1
  | k + 1 => nI (btk f k)
theorem m_booth {τ : zSt} {f : Nat → Nat} {n p : Nat} (hn : n ≤ 9) (hp : p + n ≤ 480) (hf : ∀ k, k < n → f k < n ∧ zI τ 3 (p + k) = nI (f k)) (x : Int32) : ∃ q, zLp (fun a : Int32 × Int32 × Int32 × zSt => bX11_booth_99 (nI n) x (nI p) a.1 a.2.1 a.2.2.1 a.2.2.2) zFU ((-1 : Int32), (0 : Int32), (0 : Int32), τ) = some q ∧ (q.1 = btq f n ∧ q.2.1 = nI (bbh f n) ∧ (∀ k, k < n → zI q.2.2.2 18 k = nI (btk f k)) ∧ (∀ c k, ¬ c = 18 → zI q.2.2.2 c k = zI τ c k)) := by
  refine zl_inv (body := fun a : Int32 × Int32 × Int32 × zSt => bX11_booth_99 (nI n) x (nI p) a.1 a.2.1 a.2.2.1 a.2.2.2) (fun j a => a.1 = btq f j ∧ a.2.1 = nI (bbh f j) ∧ a.2.2.1 = nI j ∧ (∀ k, k < j → zI a.2.2.2 18 k = nI (btk f k)) ∧ (∀ c k, ¬ c = 18 → zI a.2.2.2 c k = zI τ c k)) n _ ⟨rfl, rfl, rfl, fun k hk => absurd hk (Nat.not_lt_zero _), fun _ _ _ => rfl⟩ (fun j a hj hI => ?_) (fun a hI => ?_) (by omega)
  · obtain ⟨a1, a2, a3, r⟩ := a
    obtain ⟨g1, g2, g3, g4, g5⟩ := hI
    have g1 : a1 = btq f j := g1
    have g2 : a2 = nI (bbh f j) := g2
    have g3 : a3 = nI j := g3
    have g4 : ∀ k, k < j → zI r 18 k = nI (btk f k) := g4
    have g5 : ∀ c k, ¬ c = 18 → zI r c k = zI τ c k := g5
    subst g1 g2 g3
    have fj := hf j hj
    have bl := btk_le (f := f) (n := n) j (fun i hi => (hf i (by omega)).1)
    have bb := bbh_le (f := f) (n := n) j (fun i hi => (hf i (by omega)).1)
    have bf := btk_f f j
    have st : bbh f (j + 1) = if bbh f j < btk f j - f j then btk f j - f j else bbh f j := rfl
    refine ⟨(nI (btk f j), nI (bbh f (j + 1)), nI (j + 1), zwI r 18 j (nI (btk f j))), ?_, rfl, rfl, rfl, fun k hk => ?_, fun c k hc => ?_⟩
    · show bX11_booth_99 (nI n) x (nI p) (btq f j) (nI (bbh f j)) (nI j) r = _
      unfold bX11_booth_99
      rw [i_nle hj (by omega), nI_add, zrI_n (n := 480) (by decide) (by omega), Option.bind_some, g5 3 _ (by decide), fj.2]
      have fin : ∀ v w : Int32, v = nI (btk f j) → w = nI (btk f j - f j) → ((zsI 1 r 18 (nI j) v).bind fun s5 => if w ≤ nI (bbh f j) then some (Sum.inl (α := Int32 × Int32 × Int32 × zSt) (β := Int32 × Int32 × Int32 × zSt) (v, nI (bbh f j), nI j + 1, s5)) else some (Sum.inl (v, w, nI j + 1, s5))) = some (Sum.inl (nI (btk f j), nI (bbh f (j + 1)), nI (j + 1), zwI r 18 j (nI (btk f j)))) := fun v w ev ew => by
        rw [ev, ew, zsI_n (n := 9) (by decide) (by omega), Option.bind_some, st, nI_1]
        by_cases e : bbh f j < btk f j - f j
        · rw [if_pos e, i_nle e (by omega)]
        · rw [if_neg e, i_le (by omega) (by omega)]
      cases j with
      | zero =>
        rw [if_neg (show ¬ nI (f 0) ≤ btq f 0 from fun q => by
          have q2 : nI (f 0) ≤ (-1 : Int32) := q
          rw [Int32.le_iff_toInt_le, nI_toInt (by omega)] at q2
          have : (-1 : Int32).toInt = -1 := by decide
          omega)]
        exact fin _ _ rfl (pk_sub (Nat.le_refl _))
      | succ j =>
        have e1 : btk f (j + 1) = if f (j + 1) ≤ btk f j then btk f j + 1 else f (j + 1) := rfl
        have e2 := btk_le (f := f) (n := n) j (fun i hi => (hf i (by omega)).1)
        by_cases q : f (j + 1) ≤ btk f j
        · rw [if_pos q] at e1
          rw [if_pos (show nI (f (j + 1)) ≤ btq f (j + 1) from nI_le q (by omega))]
          refine fin _ _ ?_ ?_
          · show nI (btk f j) + 1 = _
            rw [nI_1, e1]
          · show nI (btk f j) + 1 - nI (f (j + 1)) = _
            rw [nI_1, pk_sub (by omega), e1]
        · rw [if_neg q] at e1
          rw [if_neg (show ¬ nI (f (j + 1)) ≤ btq f (j + 1) from nI_ge (by omega) (by omega))]
          exact fin _ _ (by rw [e1]) (by rw [pk_sub (Nat.le_refl _), e1])
    · show zI (zwI r 18 j (nI (btk f j))) 18 k = _
      by_cases e : k = j
      · subst e; rw [zI_self]
      · rw [zI_ne (fun q => e q.2)]; exact g4 k (by omega)
    · show zI (zwI r 18 j (nI (btk f j))) c k = _
      rw [zI_ne (fun q => hc q.1)]
      exact g5 c k hc
  · obtain ⟨a1, a2, a3, r⟩ := a
    obtain ⟨g1, g2, g3, g4, g5⟩ := hI
    have g3 : a3 = nI n := g3
    subst g3
    refine ⟨(a1, a2, nI n, r), ?_, g1, g2, g4, g5⟩
    show bX11_booth_99 (nI n) x (nI p) a1 a2 (nI n) r = _
    unfold bX11_booth_99
    rw [i_le (Nat.le_refl _) (by omega)]
theorem c_work {σ : zSt} {f : Nat → Nat} {n k a : Nat} (h1 : 1 ≤ n) (hn : n ≤ 9) (hk : k < 4) (ha : a + n ≤ 120) (hf : ∀ j, j < n → f j < n ∧ zI σ (12 + k) (a + j) = nI (f j)) : ∃ σ', fX0_work σ (12 + k) (nI a) (nI n) = some σ' ∧ zI σ' 10 0 = nI (btk f (n - 1)) ∧ zI σ' 10 1 = nI (bhm f n (btk f (n - 1) + 1)) ∧ zI σ' 10 2 = nI (bbh f n) ∧ (∀ c p, ¬ c = 10 → zI σ' c p = zI σ c p) ∧ σ'.2 = σ.2 := by
  have hN := btk_le (f := f) (n := n) (n - 1) (fun j hj => (hf j (by omega)).1)
  obtain ⟨⟨y1, y2, r⟩, l1, l2, l3, l4, l5, l6⟩ : ∃ w : Int32 × Int32 × zSt, zLp (fun s : Int32 × Int32 × zSt => bX0_work_21 (12 + k) (nI a) (nI n) s.1 s.2.1 s.2.2) zFU ((0 : Int32), (0 : Int32), zwI (zwI (zwI σ 10 0 (0 : Int32)) 10 1 (0 : Int32)) 10 2 (0 : Int32)) = some w ∧ (zI w.2.2 10 0 = nI (btk f (n - 1)) ∧ zI w.2.2 10 1 = nI (bhm f n (btk f (n - 1) + 1)) ∧ zI w.2.2 10 2 = nI (bbh f n) ∧ (∀ c p, ¬ c = 10 → zI w.2.2 c p = zI σ c p) ∧ w.2.2.2 = σ.2) := by
    refine zl_inv (body := fun s : Int32 × Int32 × zSt => bX0_work_21 (12 + k) (nI a) (nI n) s.1 s.2.1 s.2.2) (fun T w => w.2.1 = nI T ∧ (∃ s, s ≤ n ∧ w.1 = nI s ∧ (∀ j, j < s → btk f j < T) ∧ (s < n → T ≤ btk f s) ∧ zI w.2.2 10 2 = nI (bbh f s) ∧ (0 < s → zI w.2.2 10 0 = nI (btk f (s - 1)))) ∧ zI w.2.2 10 1 = nI (bhm f n T) ∧ (∀ c p, ¬ c = 10 → zI w.2.2 c p = zI σ c p) ∧ w.2.2.2 = σ.2) (btk f (n - 1) + 1) _ ⟨rfl, ⟨0, Nat.zero_le _, rfl, fun j hj => absurd hj (Nat.not_lt_zero _), fun _ => Nat.zero_le _, rfl, fun q => absurd q (Nat.lt_irrefl _)⟩, rfl, fun c p hc => ?_, rfl⟩ (fun T w hT hI => ?_) (fun w hI => ?_) (by omega)
    · show zI (zwI (zwI (zwI σ 10 0 (0 : Int32)) 10 1 (0 : Int32)) 10 2 (0 : Int32)) c p = _
      rw [zI_ne (fun q => hc q.1), zI_ne (fun q => hc q.1), zI_ne (fun q => hc q.1)]
    · obtain ⟨y1, y2, r⟩ := w
      obtain ⟨g1, ⟨s, g2, g3, g4, g5, g6, g7⟩, g8, g9, g10⟩ := hI
      have g1 : y2 = nI T := g1
      have g3 : y1 = nI s := g3
      subst g1 g3
      have g6 : zI r 10 2 = nI (bbh f s) := g6
      have g7 : 0 < s → zI r 10 0 = nI (btk f (s - 1)) := g7
      have g8 : zI r 10 1 = nI (bhm f n T) := g8
      have g9 : ∀ c p, ¬ c = 10 → zI r c p = zI σ c p := g9
      have sn : s < n := by
        rcases Nat.lt_or_ge s n with q | q
        · exact q
        · have := g4 (n - 1) (by omega); omega
      have fs := hf s sn
      have bf := btk_f f s
      have g5 := g5 sn
      have bm := btk_mono f (j := s) (k := n - 1) (by omega)
      have hb := bhm_le f n T
      have bb := bbh_le (f := f) (n := n) s (fun i hi => (hf i (by omega)).1)
      have mn : (if nI n < nI T + (1 : Int32) then nI n else nI T + (1 : Int32)) = nI (min (T + 1) n) := by
        rw [nI_1]
        by_cases e : n < T + 1
        · rw [i_lt e (by omega), show min (T + 1) n = n by omega]
        · rw [i_nlt (by omega) (by omega), show min (T + 1) n = T + 1 by omega]
      have sth : bhm f n (T + 1) = if bhm f n T < min (T + 1) n - bcn f T n then min (T + 1) n - bcn f T n else bhm f n T := rfl
      have cT := bcn_T f T n
      have cn := bcn_le f T n
      have un : bX0_work_21 (12 + k) (nI a) (nI n) (nI s) (nI T) r = if nI T < nI (f s) then some (Sum.inl (nI s, nI T + 1, zwI r 10 1 (if zI r 10 1 < nI (min (T + 1) n) - nI s then nI (min (T + 1) n) - nI s else zI r 10 1))) else some (Sum.inl (nI s + 1, nI T + 1, zwI (zwI (zwI r 10 2 (if zI r 10 2 < nI T - nI (f s) then nI T - nI (f s) else zI r 10 2)) 10 0 (nI T)) 10 1 (if zI r 10 1 < nI (min (T + 1) n) - (nI s + 1) then nI (min (T + 1) n) - (nI s + 1) else zI r 10 1))) := by
        unfold bX0_work_21
        rw [mn, show (2 : Int32) = nI 2 from rfl, pk_mul, i_nle (by omega) (by omega), i_nle sn (by omega), nI_add, zrI_n (zkRow k hk) (by omega), Option.bind_some, g9 _ _ (by omega), fs.2]
        rw [zI_ne (c := 10) (k := 0) (c' := 10) (k' := 1) (by omega), zI_ne (c := 10) (k := 2) (c' := 10) (k' := 1) (by omega)]
      by_cases e : f s ≤ T
      · -- said in this tick
        have tT : btk f s = T := by
          cases s with
          | zero => have : btk f 0 = f 0 := rfl; omega
          | succ s =>
            have e1 : btk f (s + 1) = if f (s + 1) ≤ btk f s then btk f s + 1 else f (s + 1) := rfl
            have e2 := g4 s (by omega)
            split at e1 <;> omega
        have cs : bcn f T n = s + 1 := bcn_is f n (by omega) (fun j hj => by
          by_cases q : j = s
          · subst q; omega
          · have := g4 j (by omega); omega) (fun _ => by have := btk_s f s; omega)
        have st : bbh f (s + 1) = if bbh f s < btk f s - f s then btk f s - f s else bbh f s := rfl
        have w1 : (if nI (bhm f n T) < nI (min (T + 1) n) - nI (s + 1) then nI (min (T + 1) n) - nI (s + 1) else nI (bhm f n T)) = nI (bhm f n (T + 1)) := by
          rw [pk_sub (by omega), sth, cs]
          by_cases q : bhm f n T < min (T + 1) n - (s + 1)
          · rw [if_pos q, i_lt q (by omega)]
          · rw [if_neg q, i_nlt (by omega) (by omega)]
        have w2 : (if nI (bbh f s) < nI T - nI (f s) then nI T - nI (f s) else nI (bbh f s)) = nI (bbh f (s + 1)) := by
          rw [pk_sub (by omega), st, tT]
          by_cases q : bbh f s < T - f s
          · rw [if_pos q, i_lt q (by omega)]
          · rw [if_neg q, i_nlt (by omega) (by omega)]
        refine ⟨(nI (s + 1), nI (T + 1), zwI (zwI (zwI r 10 2 (nI (bbh f (s + 1)))) 10 0 (nI T)) 10 1 (nI (bhm f n (T + 1)))), ?_, rfl, ⟨s + 1, by omega, rfl, fun j hj => ?_, fun _ => ?_, ?_, fun _ => ?_⟩, ?_, fun c p hc => ?_, g10⟩
        · show bX0_work_21 (12 + k) (nI a) (nI n) (nI s) (nI T) r = _
          rw [un, i_nlt e (by omega), g6, g8, nI_1, nI_1, w1, w2]
        · by_cases q : j = s
          · subst q; omega
          · have := g4 j (by omega); omega
        · have := btk_s f s; omega
        · show zI (zwI (zwI (zwI r 10 2 _) 10 0 _) 10 1 _) 10 2 = _
          rw [zI_ne (by omega), zI_ne (by omega), zI_self]
        · show zI (zwI (zwI (zwI r 10 2 _) 10 0 _) 10 1 _) 10 0 = _
          rw [zI_ne (by omega), zI_self, show s + 1 - 1 = s by omega, tT]
        · show zI (zwI (zwI (zwI r 10 2 _) 10 0 _) 10 1 _) 10 1 = _
          rw [zI_self]
        · show zI (zwI (zwI (zwI r 10 2 _) 10 0 _) 10 1 _) c p = _
          rw [zI_ne (fun q => hc q.1), zI_ne (fun q => hc q.1), zI_ne (fun q => hc q.1)]
          exact g9 c p hc
      · have cs : bcn f T n = s := bcn_is f n (by omega) (fun j hj => by have := g4 j hj; omega) (fun _ => by omega)
        have w1 : (if nI (bhm f n T) < nI (min (T + 1) n) - nI s then nI (min (T + 1) n) - nI s else nI (bhm f n T)) = nI (bhm f n (T + 1)) := by
          rw [pk_sub (by omega), sth, cs]
          by_cases q : bhm f n T < min (T + 1) n - s
          · rw [if_pos q, i_lt q (by omega)]
          · rw [if_neg q, i_nlt (by omega) (by omega)]
        refine ⟨(nI s, nI (T + 1), zwI r 10 1 (nI (bhm f n (T + 1)))), ?_, rfl, ⟨s, g2, rfl, fun j hj => ?_, fun _ => ?_, ?_, fun q => ?_⟩, ?_, fun c p hc => ?_, g10⟩
        · show bX0_work_21 (12 + k) (nI a) (nI n) (nI s) (nI T) r = _
          rw [un, i_lt (by omega) (by omega), g8, nI_1, w1]
        · have := g4 j hj; omega
        · omega
        · show zI (zwI r 10 1 _) 10 2 = _
          rw [zI_ne (by omega)]; exact g6
        · show zI (zwI r 10 1 _) 10 0 = _
          rw [zI_ne (by omega)]; exact g7 q
        · show zI (zwI r 10 1 _) 10 1 = _
          rw [zI_self]
        · show zI (zwI r 10 1 _) c p = _
          rw [zI_ne (fun q => hc q.1)]
          exact g9 c p hc
    · obtain ⟨y1, y2, r⟩ := w
      obtain ⟨g1, ⟨s, g2, g3, g4, g5, g6, g7⟩, g8, g9, g10⟩ := hI
      have g1 : y2 = nI (btk f (n - 1) + 1) := g1
      have g3 : y1 = nI s := g3
      subst g1 g3
      have sn : s = n := by
        rcases Nat.lt_or_ge s n with q | q
        · have := g5 q
          have := btk_mono f (j := s) (k := n - 1) (by omega)
          omega
        · omega
      subst sn
      refine ⟨(nI s, nI (btk f (s - 1) + 1), r), ?_, g7 (by omega), g8, g6, g9, g10⟩
      show bX0_work_21 (12 + k) (nI a) (nI s) (nI s) (nI (btk f (s - 1) + 1)) r = _
      unfold bX0_work_21
      rw [show (2 : Int32) = nI 2 from rfl, pk_mul, i_nle (by omega) (by omega), i_le (Nat.le_refl _) (by omega)]
  unfold fX0_work
  rw [l1, Option.bind_some]
  exact ⟨_, rfl, l2, l3, l4, l5, l6⟩
end BOOTH1
