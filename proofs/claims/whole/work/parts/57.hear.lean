/-! HEARING: the landed system -/
def pH (σ : zSt) (n : Nat) (T : Nat → Nat → Nat → Nat) (k t : Nat) : Prop := ∀ a, a < n → ∀ b, b < n → zI σ (56 + a) b = nI (crr n k t (T 0 a) b) ∧ zI σ (63 + a) b = nI (crr n k t (T 1 a) b)
theorem c_through {σ τ : zSt} {n : Nat} {T : Nat → Nat → Nat → Nat} (hT : pT σ τ n T) {k t : Nat} (hk : k ≤ 2) (ht : t ≤ 9) : ∃ σ', fX3_through σ (nI k) (nI t) = some σ' ∧ pH σ' n T k t ∧ (∀ c p, ¬ (56 ≤ c ∧ c ≤ 68) → zI σ' c p = zI σ c p) ∧ σ'.2 = σ.2 := by
  have h6 := hT.2.1
  unfold fX3_through
  obtain ⟨⟨y, s⟩, l1, l2⟩ := zl_inv (body := fun s : Int32 × zSt => bX3_through_2 (nI k) (nI t) s.1 s.2) (a := ((0 : Int32), σ)) (fun i (s : Int32 × zSt) => s.1 = nI i ∧ (∀ a, a < i → ∀ b, b < n → zI s.2 (56 + a) b = nI (crr n k t (T 0 a) b) ∧ zI s.2 (63 + a) b = nI (crr n k t (T 1 a) b)) ∧ (∀ c p, ¬ (56 ≤ c ∧ c ≤ 68) → zI s.2 c p = zI σ c p) ∧ s.2.2 = σ.2) n (fun (s : Int32 × zSt) => pH s.2 n T k t ∧ (∀ c p, ¬ (56 ≤ c ∧ c ≤ 68) → zI s.2 c p = zI σ c p) ∧ s.2.2 = σ.2) ⟨rfl, fun a ha => absurd ha (by omega), fun _ _ _ => rfl, rfl⟩ (fun i s hi hI => by
      obtain ⟨x, s0⟩ := s
      obtain ⟨e1, e2, e3, e4⟩ := hI
      have e1 : x = nI i := e1
      have e2 : ∀ a, a < i → ∀ b, b < n → zI s0 (56 + a) b = nI (crr n k t (T 0 a) b) ∧ zI s0 (63 + a) b = nI (crr n k t (T 1 a) b) := e2
      have e3 : ∀ c p, ¬ (56 ≤ c ∧ c ≤ 68) → zI s0 c p = zI σ c p := e3
      have e4 : s0.2 = σ.2 := e4
      subst e1
      have hT0 : pT s0 τ n T := hT.mv (e3 _ _ (by omega)) (fun c p h1 h2 => e3 c p (by omega)) rfl (fun _ => rfl)
      obtain ⟨s1, g1, g2, g3⟩ := c_carry hT0 (w := 0) (by decide) hi hk ht (zkThere i (by omega)) (by omega)
      have hT1 : pT s1 τ n T := hT0.mv (by rw [g2, if_neg (by omega)]) (fun c p h1 h2 => by rw [g2, if_neg (by omega)]) rfl (fun _ => rfl)
      obtain ⟨s2, g4, g5, g6⟩ := c_carry hT1 (w := 1) (by decide) hi hk ht (zkHome i (by omega)) (by omega)
      refine ⟨(nI (i + 1), s2), ?_, rfl, fun a ha b hb => ?_, fun c p hc => ?_, g6.trans (g3.trans e4)⟩
      · show bX3_through_2 (nI k) (nI t) (nI i) s0 = _
        unfold bX3_through_2
        rw [hT0.2.2.1, i_nle hi (by omega), zrA_n (n := 6) (by decide) (by omega), Option.bind_some, show 55 + 1 + i = 56 + i by omega, show (0 : Int32) = nI 0 from rfl, g1, Option.bind_some, zrA_n (n := 6) (by decide) (by omega), Option.bind_some, show 62 + 1 + i = 63 + i by omega, show (1 : Int32) = nI 1 from rfl, g4, Option.bind_some, nI_add]
      · show zI s2 (56 + a) b = _ ∧ zI s2 (63 + a) b = _
        rw [g5, g5, g2, g2]
        by_cases q : a = i
        · subst q
          rw [if_neg (by omega), if_pos ⟨rfl, hb⟩, if_pos ⟨rfl, hb⟩]
          exact ⟨rfl, rfl⟩
        · rw [if_neg (by omega), if_neg (by omega), if_neg (by omega), if_neg (by omega)]
          exact e2 a (by omega) b hb
      · show zI s2 c p = _
        rw [g5, if_neg (by omega), g2, if_neg (by omega)]
        exact e3 c p hc) (fun s hI => by
      obtain ⟨x, s0⟩ := s
      obtain ⟨e1, e2, e3, e4⟩ := hI
      have e1 : x = nI n := e1
      have e3 : ∀ c p, ¬ (56 ≤ c ∧ c ≤ 68) → zI s0 c p = zI σ c p := e3
      subst e1
      refine ⟨(nI n, s0), ?_, e2, e3, e4⟩
      show bX3_through_2 (nI k) (nI t) (nI n) s0 = _
      unfold bX3_through_2
      rw [e3 3 0 (by omega), hT.2.2.1, i_le (Nat.le_refl _) (by omega)]) (by omega)
  rw [l1, Option.bind_some]
  exact ⟨s, rfl, l2⟩
/-- what stands behind a question a, what reached r, was said q, is heard h -/
def psg (n : Nat) (T : Nat → Nat → Nat → Nat) (pl : Nat) (sp : Nat → Nat → Nat) (k t a h r q : Nat) : Nat := crr n k t (T 0 a) r * ans pl sp r q * crr n k t (T 1 q) h
/-- the landed system, ready to hear -/
def pHr (σ : zSt) (n : Nat) (T : Nat → Nat → Nat → Nat) (pl : Nat) (sp : Nat → Nat → Nat) (k t : Nat) : Prop := n ≤ 6 ∧ zI σ 3 0 = nI n ∧ pH σ n T k t ∧ ∀ r, r < n → ∀ q, q < n → zI σ (49 + r) q = nI (ans pl sp r q)
section HEAR
variable {σ : zSt} {n : Nat} {T : Nat → Nat → Nat → Nat} {pl : Nat} {sp : Nat → Nat → Nat} {k t : Nat}
theorem c_passing (hH : pHr σ n T pl sp k t) {a r q h : Nat} (ha : a < n) (hr : r < n) (hq : q < n) (hh : h < n) : fX3_passing σ (nI a) (nI r) (nI q) (nI h) = some (nI (psg n T pl sp k t a h r q)) := by
  obtain ⟨h6, h3, hp, hw⟩ := hH
  unfold fX3_passing psg
  rw [zrA_n (n := 6) (by decide) (by omega), Option.bind_some, zrA_n (n := 6) (by decide) (by omega), zrA_n (n := 6) (by decide) (by omega), show 55 + 1 + a = 56 + a by omega, zrI_n (zkThere a (by omega)) (by omega), Option.bind_some, Option.bind_some, show 48 + 1 + r = 49 + r by omega, zrI_n (zkTimes r (by omega)) (by omega), Option.bind_some, Option.bind_some, show 62 + 1 + q = 63 + q by omega, zrI_n (zkHome q (by omega)) (by omega), Option.bind_some, (hp a ha r hr).1, hw r hr q hq, (hp q hq h hh).2, pk_mul, pk_mul]
theorem c_saidAndHeard (hH : pHr σ n T pl sp k t) {a q h : Nat} (ha : a < n) (hq : q < n) (hh : h < n) : fX3_saidAndHeard σ (nI a) (nI q) (nI h) = some (nI (sm n (fun r => psg n T pl sp k t a h r q))) := by
  have h6 := hH.1
  unfold fX3_saidAndHeard
  rw [zl_run (a := ((0 : Int32), (0 : Int32))) (fun i => (nI (sm i (fun r => psg n T pl sp k t a h r q)), nI i)) n (b := (nI (sm n (fun r => psg n T pl sp k t a h r q)), nI n)) rfl ?_ ?_ (by omega)]
  · rfl
  · intro i hi
    show bX3_saidAndHeard_6 σ (nI a) (nI q) (nI h) _ (nI i) = _
    unfold bX3_saidAndHeard_6
    rw [hH.2.1, i_nle hi (by omega), c_passing hH ha hi hq hh, Option.bind_some, nI_add, nI_1]
    rfl
  · show bX3_saidAndHeard_6 σ (nI a) (nI q) (nI h) _ (nI n) = _
    unfold bX3_saidAndHeard_6
    rw [hH.2.1, i_le (Nat.le_refl _) (by omega)]
theorem tms_all {a h : Nat} : tms n T pl sp k t a h (fun _ => true) (fun _ => true) = sm n (fun q => sm n (fun r => psg n T pl sp k t a h r q)) := by
  unfold tms
  simp only [↓reduceIte]
  rw [sm_swap]
  rfl
theorem c_heardTimes (hH : pHr σ n T pl sp k t) {a h : Nat} (ha : a < n) (hh : h < n) : fX3_heardTimes σ (nI a) (nI h) = some (nI (tms n T pl sp k t a h (fun _ => true) (fun _ => true))) := by
  have h6 := hH.1
  unfold fX3_heardTimes
  rw [tms_all, zl_run (a := ((0 : Int32), (0 : Int32))) (fun i => (nI (sm i (fun q => sm n (fun r => psg n T pl sp k t a h r q))), nI i)) n (b := (nI (sm n (fun q => sm n (fun r => psg n T pl sp k t a h r q))), nI n)) rfl ?_ ?_ (by omega)]
  · rfl
  · intro i hi
    show bX3_heardTimes_5 σ (nI a) (nI h) _ (nI i) = _
    unfold bX3_heardTimes_5
    rw [hH.2.1, i_nle hi (by omega), c_saidAndHeard hH ha hi hh, Option.bind_some, nI_add, nI_1]
    rfl
  · show bX3_heardTimes_5 σ (nI a) (nI h) _ (nI n) = _
    unfold bX3_heardTimes_5
    rw [hH.2.1, i_le (Nat.le_refl _) (by omega)]
/-- what is left of the whole -/
def lft (n : Nat) (T : Nat → Nat → Nat → Nat) (pl : Nat) (sp : Nat → Nat → Nat) (k t a : Nat) : Nat → Int32
  | 0 => 2985984
  | i + 1 => lft n T pl sp k t a i - nI (tms n T pl sp k t a i (fun _ => true) (fun _ => true))
theorem c_nothing (hH : pHr σ n T pl sp k t) {a : Nat} (ha : a < n) : fX3_nothing σ (nI a) = some (lft n T pl sp k t a n) := by
  have h6 := hH.1
  unfold fX3_nothing
  rw [zl_run (a := ((2985984 : Int32), (0 : Int32))) (fun i => (lft n T pl sp k t a i, nI i)) n (b := (lft n T pl sp k t a n, nI n)) rfl ?_ ?_ (by omega)]
  · rfl
  · intro i hi
    show bX3_nothing_5 σ (nI a) _ (nI i) = _
    unfold bX3_nothing_5
    rw [hH.2.1, i_nle hi (by omega), c_heardTimes hH ha hi, Option.bind_some, nI_1]
    rfl
  · show bX3_nothing_5 σ (nI a) _ (nI n) = _
    unfold bX3_nothing_5
    rw [hH.2.1, i_le (Nat.le_refl _) (by omega)]
theorem tms_one {a h m : Nat} (hm : m < n) : tms n T pl sp k t a h (fun r => r == m) (fun _ => true) = sm n (fun q => psg n T pl sp k t a h m q) := by
  unfold tms
  rw [sm_one (k := m) hm (fun i hi hne => by rw [if_neg (by simp [hne])])]
  rw [if_pos (by simp)]
  simp only [↓reduceIte]
  rfl
theorem c_reachedTimes {τ : zSt} (hT : pT σ τ n T) (hH : pHr σ n T pl sp k t) {a h : Nat} (ha : a < n) (hh : h < n) : fX3_reachedTimes σ (nI a) (nI h) = some (nI (tms n T pl sp k t a h (fun r => r == amx n (T 0 a)) (fun _ => true))) := by
  have h6 := hH.1
  have hm := amx_lt (n := n) (f := T 0 a) (by omega)
  unfold fX3_reachedTimes
  rw [show (0 : Int32) = nI 0 from rfl, c_meaning hT (by decide) ha, Option.bind_some, tms_one hm, zl_run (a := (nI 0, nI 0)) (fun i => (nI (sm i (fun q => psg n T pl sp k t a h (amx n (T 0 a)) q)), nI i)) n (b := (nI (sm n (fun q => psg n T pl sp k t a h (amx n (T 0 a)) q)), nI n)) rfl ?_ ?_ (by omega)]
  · rfl
  · intro i hi
    show bX3_reachedTimes_16 σ (nI a) (nI h) (nI (amx n (T 0 a))) _ (nI i) = _
    unfold bX3_reachedTimes_16
    rw [hH.2.1, i_nle hi (by omega), c_passing hH ha hm hi hh, Option.bind_some, nI_add, nI_1]
    rfl
  · show bX3_reachedTimes_16 σ (nI a) (nI h) (nI (amx n (T 0 a))) _ (nI n) = _
    unfold bX3_reachedTimes_16
    rw [hH.2.1, i_le (Nat.le_refl _) (by omega)]
theorem tms_said {a h : Nat} (Q : Nat → Bool) : tms n T pl sp k t a h (fun _ => true) Q = sm n (fun q => if Q q then sm n (fun r => psg n T pl sp k t a h r q) else 0) := by
  unfold tms
  simp only [↓reduceIte]
  rw [sm_swap]
  refine sm_congr (fun q hq => ?_)
  by_cases e : Q q = true
  · simp only [e, ↓reduceIte]
    rfl
  · rw [if_neg e]
    exact sm_zero (fun r hr => by rw [if_neg e])
theorem c_saidTimes {τ : zSt} (hT : pT σ τ n T) (hH : pHr σ n T pl sp k t) {a h : Nat} (ha : a < n) (hh : h < n) : fX3_saidTimes σ (nI a) (nI h) = some (nI (tms n T pl sp k t a h (fun _ => true) (fun q => amx n (T 1 q) == h))) := by
  have h6 := hH.1
  unfold fX3_saidTimes
  rw [tms_said, show (0 : Int32) = nI 0 from rfl, zl_run (a := (nI 0, nI 0)) (fun i => (nI (sm i (fun q => if (amx n (T 1 q) == h) = true then sm n (fun r => psg n T pl sp k t a h r q) else 0)), nI i)) n (b := (nI (sm n (fun q => if (amx n (T 1 q) == h) = true then sm n (fun r => psg n T pl sp k t a h r q) else 0)), nI n)) rfl ?_ ?_ (by omega)]
  · rfl
  · intro i hi
    show bX3_saidTimes_5 σ (nI a) (nI h) _ (nI i) = _
    unfold bX3_saidTimes_5
    have hm := amx_lt (n := n) (f := T 1 i) (by omega)
    have e : sm (i + 1) (fun q => if (amx n (T 1 q) == h) = true then sm n (fun r => psg n T pl sp k t a h r q) else 0) = sm i (fun q => if (amx n (T 1 q) == h) = true then sm n (fun r => psg n T pl sp k t a h r q) else 0) + (if (amx n (T 1 i) == h) = true then sm n (fun r => psg n T pl sp k t a h r i) else 0) := rfl
    rw [hH.2.1, i_nle hi (by omega), show (1 : Int32) = nI 1 from rfl, c_meaning hT (by decide) hi, Option.bind_some, e]
    by_cases q : amx n (T 1 i) = h
    · rw [i_eq q, if_pos (by simp [q]), c_saidAndHeard hH ha hi hh, Option.bind_some, nI_add, nI_add]
    · rw [i_ne q (by omega) (by omega), if_neg (by simp [q]), nI_add]
      rfl
  · show bX3_saidTimes_5 σ (nI a) (nI h) _ (nI n) = _
    unfold bX3_saidTimes_5
    rw [hH.2.1, i_le (Nat.le_refl _) (by omega)]
/-- over -/
def ovr (n : Nat) (T : Nat → Nat → Nat → Nat) (pl : Nat) (sp : Nat → Nat → Nat) (k t a : Nat) : Nat := sm n (fun q => psg n T pl sp k t a (amx n (T 1 q)) (amx n (T 0 a)) q)
theorem c_overTimes {τ : zSt} (hT : pT σ τ n T) (hH : pHr σ n T pl sp k t) {a : Nat} (ha : a < n) : fX3_overTimes σ (nI a) = some (nI (ovr n T pl sp k t a)) := by
  have h6 := hH.1
  have hm := amx_lt (n := n) (f := T 0 a) (by omega)
  unfold fX3_overTimes ovr
  rw [show (0 : Int32) = nI 0 from rfl, c_meaning hT (by decide) ha, Option.bind_some, zl_run (a := (nI 0, nI 0)) (fun i => (nI (sm i (fun q => psg n T pl sp k t a (amx n (T 1 q)) (amx n (T 0 a)) q)), nI i)) n (b := (nI (sm n (fun q => psg n T pl sp k t a (amx n (T 1 q)) (amx n (T 0 a)) q)), nI n)) rfl ?_ ?_ (by omega)]
  · rfl
  · intro i hi
    show bX3_overTimes_15 σ (nI a) (nI (amx n (T 0 a))) _ (nI i) = _
    unfold bX3_overTimes_15
    have hm2 := amx_lt (n := n) (f := T 1 i) (by omega)
    rw [hH.2.1, i_nle hi (by omega), show (1 : Int32) = nI 1 from rfl, c_meaning hT (by decide) hi, Option.bind_some, c_passing hH ha hm hi hm2, Option.bind_some, nI_add, nI_add]
    rfl
  · show bX3_overTimes_15 σ (nI a) (nI (amx n (T 0 a))) _ (nI n) = _
    unfold bX3_overTimes_15
    rw [hH.2.1, i_le (Nat.le_refl _) (by omega)]
end HEAR
