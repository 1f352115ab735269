/-! HEARING: the reference -/
theorem has_n : ∀ s, s < 64 → ∀ k, k < 6 → fX11_has (nI s) (nI k) = if s.testBit k then 1 else 0 := by decide +kernel
theorem or_n : ∀ i, i < 6 → ∀ s, s < 64 → nI s ||| ((1 : Int32) <<< (nI i &&& 31)) = nI (s ||| 2 ^ i) := by decide +kernel
theorem sh_n : ∀ m, m < 6 → (1 : Int32) <<< (nI m &&& 31) = nI (2 ^ m) := by decide +kernel
theorem all_n : ∀ n, n < 7 → ((1 : Int32) <<< (nI n &&& 31)) - 1 = nI (2 ^ n - 1) := by decide +kernel
def kpt (kind : Nat) (r : Nat → Nat) (b : Nat) : Nat := if kind = 0 then r b else r b / 2
theorem kpt_le (kind : Nat) (r : Nat → Nat) (b : Nat) : kpt kind r b ≤ r b := by
  unfold kpt
  split
  · exact Nat.le_refl _
  · exact Nat.div_le_self _ _
theorem pln_sum {n k : Nat} {r : Nat → Nat} (hn : 0 < n) (hs : sm n r ≤ 12) : sm n (pln n k r) = if k = 2 then 12 else sm n r := by
  have hm := amx_lt (n := n) (f := r) hn
  have e1 : sm n (pln n k r) = sm n (kpt k r) + sm n (fun b => if b = amx n r then (r (amx n r) - kpt k r (amx n r)) + sm n (gpl n k r) + (if k = 2 then 12 - sm n r else 0) else 0) := by
    rw [← sm_add]
    refine sm_congr (fun b hb => ?_)
    by_cases q : b = amx n r
    · rw [if_pos q, q, pln_m]
      have := kpt_le k r (amx n r)
      omega
    · rw [if_neg q, pln_o q]
      rfl
  have e2 : sm n (kpt k r) + (sm n (gpl n k r) + sm n (fun b => if b = amx n r then r (amx n r) - kpt k r (amx n r) else 0)) = sm n r := by
    rw [← sm_add, ← sm_add]
    refine sm_congr (fun b hb => ?_)
    have := kpt_le k r b
    by_cases q : b = amx n r
    · rw [if_pos q]
      unfold gpl
      rw [if_pos q, ← q]
      omega
    · rw [if_neg q]
      unfold gpl
      rw [if_neg q]
      unfold kpt at this ⊢
      split
      · omega
      · rename_i h
        rw [if_neg h] at this
        omega
  rw [sm_one (k := amx n r) hm (fun i _ h => if_neg h), if_pos rfl] at e1 e2
  rw [e1]
  split
  · rename_i h
    rw [if_pos h] at *
    omega
  · rename_i h
    rw [if_neg h] at *
    omega
theorem pln_le {n k b : Nat} {r : Nat → Nat} (hb : b < n) (hs : sm n r ≤ 12) : pln n k r b ≤ 12 := by
  have h1 := sm_at (f := pln n k r) hb
  rw [pln_sum (by omega) hs] at h1
  split at h1 <;> omega
theorem crr_sum {n k t : Nat} {r : Nat → Nat} (hn : 0 < n) (hs : sm n r ≤ 12) : sm n (crr n k t r) ≤ 144 := by
  have e : sm n (crr n k t r) = sm n (pln n k r) * (12 - t) := sm_mul
  have h2 : sm n (pln n k r) ≤ 12 := by rw [pln_sum hn hs]; split <;> omega
  rw [e]
  exact Nat.le_trans (Nat.mul_le_mul h2 (Nat.sub_le 12 t)) (by decide)
theorem crr_le {n k t b : Nat} {r : Nat → Nat} (hb : b < n) (hs : sm n r ≤ 12) : crr n k t r b ≤ 144 := Nat.le_trans (sm_at hb) (crr_sum (by omega) hs)
theorem ans_sum {n pl r : Nat} {sp : Nat → Nat → Nat} (hn : 0 < n) (hs : sm n (sp r) ≤ 12) (hp : pl ≤ 9) : sm n (ans pl sp r) ≤ 144 := by
  have e : sm n (ans pl sp r) = sm n (sp r) * (12 - pl) + 12 * pl := by
    have e1 : sm n (ans pl sp r) = sm n (fun b => sp r b * (12 - pl)) + sm n (fun b => if b = 0 then 12 * pl else 0) := sm_add
    rw [e1, sm_mul, sm_one (k := 0) hn (fun i _ h => if_neg h), if_pos rfl]
  have h2 : sm n (sp r) * (12 - pl) ≤ 12 * (12 - pl) := Nat.mul_le_mul_right _ hs
  rw [e]
  omega
section MTIMES
variable {σ τ : zSt} {n : Nat} {T : Nat → Nat → Nat → Nat} {c : Nat} {kd td : Nat → Nat} {pl : Nat} {sp : Nat → Nat → Nat}
theorem m_timesI (hT : pT σ τ n T) (hC : pC σ τ c kd td) (hW : pW σ τ n 1 pl sp) {x a h r s1 s2 cm s0 : Nat} (hx : x < c) (ha : a < n) (hh : h < n) (hr : r < n) (h2 : s2 < 64) (hcm : cm ≤ 144) : ∃ b, zLp (fun s : Int32 × Int32 => bX11_times_43 τ (nI x) (nI a) (nI h) (nI s1) (nI s2) (nI r) (nI cm) s.1 s.2) zFU (nI s0, (0 : Int32)) = some b ∧ b.1 = nI (s0 + sm n (fun q => if s2.testBit q then cm * ans pl sp r q * crr n (kd x) (td x) (T 1 q) h else 0)) := by
  have h6 := hT.2.1
  by_cases c0 : cm = 0
  · subst c0
    refine ⟨(nI s0, nI 0), zl_run (fun i => (nI s0, nI i)) 0 rfl (fun i hi => absurd hi (by omega)) ?_ (by decide), ?_⟩
    · show bX11_times_43 τ (nI x) (nI a) (nI h) (nI s1) (nI s2) (nI r) (nI 0) (nI s0) (nI 0) = _
      unfold bX11_times_43
      rw [hT.2.2.2.1, i_nle (by omega) (by omega), if_pos (by decide)]
    · show nI s0 = _
      rw [sm_zero (fun q _ => by rw [Nat.zero_mul, Nat.zero_mul]; split <;> rfl), Nat.add_zero]
  · refine ⟨(nI (s0 + sm n (fun q => if s2.testBit q then cm * ans pl sp r q * crr n (kd x) (td x) (T 1 q) h else 0)), nI n), zl_run (fun i => (nI (s0 + sm i (fun q => if s2.testBit q then cm * ans pl sp r q * crr n (kd x) (td x) (T 1 q) h else 0)), nI i)) n rfl (fun i hi => ?_) ?_ (by omega), rfl⟩
    · show bX11_times_43 τ (nI x) (nI a) (nI h) (nI s1) (nI s2) (nI r) (nI cm) (nI (s0 + sm i _)) (nI i) = _
      unfold bX11_times_43
      have e : sm (i + 1) (fun q => if s2.testBit q then cm * ans pl sp r q * crr n (kd x) (td x) (T 1 q) h else 0) = sm i (fun q => if s2.testBit q then cm * ans pl sp r q * crr n (kd x) (td x) (T 1 q) h else 0) + (if s2.testBit i then cm * ans pl sp r i * crr n (kd x) (td x) (T 1 i) h else 0) := rfl
      rw [hT.2.2.2.1, i_nle hi (by omega), show (0 : Int32) = nI 0 from rfl, i_nle (by omega) (by omega), has_n s2 h2 i (by omega), e]
      by_cases q : s2.testBit i = true
      · rw [if_pos q, if_pos q, show nI 0 = (0 : Int32) from rfl, i10, m_answered hT hW rfl hr hi, Option.bind_some, show (1 : Int32) = nI 1 from rfl, m_carried hT hC hx (by decide) hi hh, Option.bind_some, pk_mul, pk_mul, nI_add, nI_add, Nat.add_assoc]
      · rw [if_neg q, if_neg q, show nI 0 = (0 : Int32) from rfl, i00, nI_1]
        rw [show (0 : Int32) = nI 0 from rfl, nI_add, Nat.add_assoc]
    · show bX11_times_43 τ (nI x) (nI a) (nI h) (nI s1) (nI s2) (nI r) (nI cm) (nI (s0 + sm n _)) (nI n) = _
      unfold bX11_times_43
      rw [hT.2.2.2.1, i_le (Nat.le_refl _) (by omega)]
theorem m_times (hT : pT σ τ n T) (hC : pC σ τ c kd td) (hW : pW σ τ n 1 pl sp) {x a h s1 s2 : Nat} (hx : x < c) (ha : a < n) (hh : h < n) (h1 : s1 < 64) (h2 : s2 < 64) : fX11_times τ (nI x) (nI a) (nI h) (nI s1) (nI s2) = some (nI (tms n T pl sp (kd x) (td x) a h (fun r => s1.testBit r) (fun q => s2.testBit q))) := by
  have h6 := hT.2.1
  unfold fX11_times tms
  rw [zl_run (a := ((0 : Int32), (0 : Int32))) (fun i => (nI (sm i (fun r => if s1.testBit r then sm n (fun q => if s2.testBit q then crr n (kd x) (td x) (T 0 a) r * ans pl sp r q * crr n (kd x) (td x) (T 1 q) h else 0) else 0)), nI i)) n (b := (nI (sm n (fun r => if s1.testBit r then sm n (fun q => if s2.testBit q then crr n (kd x) (td x) (T 0 a) r * ans pl sp r q * crr n (kd x) (td x) (T 1 q) h else 0) else 0)), nI n)) rfl ?_ ?_ (by omega)]
  · rfl
  · intro i hi
    show bX11_times_6 τ (nI x) (nI a) (nI h) (nI s1) (nI s2) (nI (sm i _)) (nI i) = _
    unfold bX11_times_6
    have e : sm (i + 1) (fun r => if s1.testBit r then sm n (fun q => if s2.testBit q then crr n (kd x) (td x) (T 0 a) r * ans pl sp r q * crr n (kd x) (td x) (T 1 q) h else 0) else 0) = sm i (fun r => if s1.testBit r then sm n (fun q => if s2.testBit q then crr n (kd x) (td x) (T 0 a) r * ans pl sp r q * crr n (kd x) (td x) (T 1 q) h else 0) else 0) + (if s1.testBit i then sm n (fun q => if s2.testBit q then crr n (kd x) (td x) (T 0 a) i * ans pl sp i q * crr n (kd x) (td x) (T 1 q) h else 0) else 0) := rfl
    rw [hT.2.2.2.1, i_nle hi (by omega), has_n s1 h1 i (by omega), e]
    by_cases q : s1.testBit i = true
    · have hcr := crr_le (k := kd x) (t := td x) hi (hT.2.2.2.2 0 (by decide) a ha).1.2.2
      obtain ⟨b, g1, g2⟩ := m_timesI hT hC hW (s1 := s1) (s0 := sm i (fun r => if s1.testBit r then sm n (fun q => if s2.testBit q then crr n (kd x) (td x) (T 0 a) r * ans pl sp r q * crr n (kd x) (td x) (T 1 q) h else 0) else 0)) hx ha hh hi h2 hcr
      rw [if_pos q, i10, if_pos q]
      have mc := m_carried hT hC hx (w := 0) (by decide) ha hi
      rw [show nI 0 = (0 : Int32) from rfl] at mc
      rw [mc, Option.bind_some, g1, Option.bind_some, g2, nI_1]
    · obtain ⟨b, g1, g2⟩ := m_timesI hT hC hW (s1 := s1) (cm := 0) (s0 := sm i (fun r => if s1.testBit r then sm n (fun q => if s2.testBit q then crr n (kd x) (td x) (T 0 a) r * ans pl sp r q * crr n (kd x) (td x) (T 1 q) h else 0) else 0)) hx ha hh hi h2 (by decide)
      rw [show nI 0 = (0 : Int32) from rfl] at g1
      rw [if_neg q, i00, if_neg q, g1, Option.bind_some, g2, nI_1, sm_zero (n := n) (fun q _ => by rw [Nat.zero_mul, Nat.zero_mul]; split <;> rfl)]
  · show bX11_times_6 τ (nI x) (nI a) (nI h) (nI s1) (nI s2) (nI (sm n _)) (nI n) = _
    unfold bX11_times_6
    rw [hT.2.2.2.1, i_le (Nat.le_refl _) (by omega)]
theorem tms_congr {k t a h : Nat} {P P' Q Q' : Nat → Bool} (hP : ∀ r, r < n → P r = P' r) (hQ : ∀ r, r < n → Q r = Q' r) : tms n T pl sp k t a h P Q = tms n T pl sp k t a h P' Q' := by
  unfold tms
  refine sm_congr (fun r hr => ?_)
  rw [hP r hr]
  split
  · refine sm_congr (fun q hq => ?_)
    rw [hQ q hq]
  · rfl
theorem tb_all {k : Nat} (hk : k < n) : (2 ^ n - 1).testBit k = true := by rw [Nat.testBit_two_pow_sub_one]; simp [hk]
theorem tb_one (m k : Nat) : (2 ^ m).testBit k = (k == m) := by
  rw [Nat.testBit_two_pow]
  by_cases q : m = k
  · simp [q]
  · simp [q, Ne.symm q]
theorem tms_oo {k t a h m i : Nat} (hm : m < n) (hi : i < n) : tms n T pl sp k t a h (fun r => r == m) (fun q => q == i) = psg n T pl sp k t a h m i := by
  unfold tms
  rw [sm_one (k := m) hm (fun r _ hne => if_neg (by simp [hne])), if_pos (by simp), sm_one (k := i) hi (fun q _ hne => if_neg (by simp [hne])), if_pos (by simp)]
  rfl
theorem m_all (hT : pT σ τ n T) : fX11_allWords τ = nI (2 ^ n - 1) ∧ 2 ^ n - 1 < 64 := by
  have h6 := hT.2.1
  unfold fX11_allWords
  rw [hT.2.2.2.1, all_n n (by omega)]
  refine ⟨rfl, ?_⟩
  have := Nat.pow_le_pow_right (n := 2) (by decide) h6
  omega
theorem m_timesA (hT : pT σ τ n T) (hC : pC σ τ c kd td) (hW : pW σ τ n 1 pl sp) {x a h : Nat} (hx : x < c) (ha : a < n) (hh : h < n) : fX11_times τ (nI x) (nI a) (nI h) (fX11_allWords τ) (fX11_allWords τ) = some (nI (tms n T pl sp (kd x) (td x) a h (fun _ => true) (fun _ => true))) := by
  rw [(m_all hT).1, m_times hT hC hW hx ha hh (m_all hT).2 (m_all hT).2, tms_congr (fun r hr => tb_all hr) (fun r hr => tb_all hr)]
def sbt (n : Nat) (T : Nat → Nat → Nat → Nat) (h : Nat) : Nat → Nat
  | 0 => 0
  | i + 1 => if amx n (T 1 i) = h then sbt n T h i ||| 2 ^ i else sbt n T h i
theorem sbt_lt (h : Nat) : ∀ i, sbt n T h i < 2 ^ i
  | 0 => by show 0 < 2 ^ 0; decide
  | i + 1 => by
    have ih := sbt_lt h i
    have h2 : 2 ^ (i + 1) = 2 ^ i + 2 ^ i := by rw [Nat.pow_succ]; omega
    rw [sbt]
    split
    · exact Nat.or_lt_two_pow (by omega) (by omega)
    · omega
theorem sbt_bit (h : Nat) : ∀ i k, (sbt n T h i).testBit k = (decide (k < i) && (amx n (T 1 k) == h))
  | 0, k => by simp [sbt]
  | i + 1, k => by
    have ih := sbt_bit h i k
    rw [sbt]
    by_cases q : amx n (T 1 i) = h
    · rw [if_pos q, Nat.testBit_or, ih, tb_one]
      by_cases e : k = i
      · subst e; simp [q]
      · have e2 : (k < i + 1) = (k < i) := by apply propext; omega
        simp [e, e2]
    · rw [if_neg q, ih]
      by_cases e : k = i
      · subst e; simp [q]
      · have e2 : (k < i + 1) = (k < i) := by apply propext; omega
        simp [e2]
theorem m_saidBy (hT : pT σ τ n T) {h : Nat} (hh : h < n) : fX11_saidBy τ (nI h) = some (nI (sbt n T h n)) ∧ sbt n T h n < 64 := by
  have h6 := hT.2.1
  have lt64 : ∀ i, i ≤ 6 → sbt n T h i < 64 := fun i hi => Nat.lt_of_lt_of_le (sbt_lt h i) (Nat.pow_le_pow_right (n := 2) (by decide) hi)
  refine ⟨?_, lt64 n h6⟩
  unfold fX11_saidBy
  rw [zl_run (a := ((0 : Int32), (0 : Int32))) (fun i => (nI (sbt n T h i), nI i)) n (b := (nI (sbt n T h n), nI n)) rfl ?_ ?_ (by omega)]
  · rfl
  · intro i hi
    show bX11_saidBy_4 τ (nI h) (nI (sbt n T h i)) (nI i) = _
    unfold bX11_saidBy_4
    have hm := amx_lt (n := n) (f := T 1 i) (by omega)
    have mb := m_meantBy hT (w := 1) (by decide) hi
    rw [show nI 1 = (1 : Int32) from rfl] at mb
    rw [hT.2.2.2.1, i_nle hi (by omega), mb, Option.bind_some, Int32.or_zero, nI_1, or_n i (by omega) _ (lt64 i (by omega))]
    have e : sbt n T h (i + 1) = if amx n (T 1 i) = h then sbt n T h i ||| 2 ^ i else sbt n T h i := rfl
    rw [e]
    by_cases q : amx n (T 1 i) = h
    · rw [i_eq q, if_pos q]
    · rw [i_ne q (by omega) (by omega), if_neg q]
  · show bX11_saidBy_4 τ (nI h) (nI (sbt n T h n)) (nI n) = _
    unfold bX11_saidBy_4
    rw [hT.2.2.2.1, i_le (Nat.le_refl _) (by omega)]
theorem m_timesS (hT : pT σ τ n T) (hC : pC σ τ c kd td) (hW : pW σ τ n 1 pl sp) {x a h : Nat} (hx : x < c) (ha : a < n) (hh : h < n) : fX11_times τ (nI x) (nI a) (nI h) (fX11_allWords τ) (nI (sbt n T h n)) = some (nI (tms n T pl sp (kd x) (td x) a h (fun _ => true) (fun q => amx n (T 1 q) == h))) := by
  rw [(m_all hT).1, m_times hT hC hW hx ha hh (m_all hT).2 (m_saidBy hT hh).2, tms_congr (P' := fun _ => true) (Q' := fun q => amx n (T 1 q) == h) (fun r hr => tb_all hr) (fun r hr => by rw [sbt_bit]; simp [hr])]
theorem m_overOf (hT : pT σ τ n T) (hC : pC σ τ c kd td) (hW : pW σ τ n 1 pl sp) {x a : Nat} (hx : x < c) (ha : a < n) : fX11_overOf τ (nI x) (nI a) = some (nI (ovr n T pl sp (kd x) (td x) a)) := by
  have h6 := hT.2.1
  have lt64 : ∀ i, i < 6 → 2 ^ i < 64 := by decide
  unfold fX11_overOf ovr
  rw [zl_run (a := ((0 : Int32), (0 : Int32))) (fun i => (nI (sm i (fun q => psg n T pl sp (kd x) (td x) a (amx n (T 1 q)) (amx n (T 0 a)) q)), nI i)) n (b := (nI (sm n (fun q => psg n T pl sp (kd x) (td x) a (amx n (T 1 q)) (amx n (T 0 a)) q)), nI n)) rfl ?_ ?_ (by omega)]
  · rfl
  · intro i hi
    show bX11_overOf_5 τ (nI x) (nI a) (nI (sm i _)) (nI i) = _
    unfold bX11_overOf_5
    have hm := amx_lt (n := n) (f := T 1 i) (by omega)
    have hm0 := amx_lt (n := n) (f := T 0 a) (by omega)
    have mb := m_meantBy hT (w := 1) (by decide) hi
    have mb0 := m_meantBy hT (w := 0) (by decide) ha
    rw [show nI 1 = (1 : Int32) from rfl] at mb
    rw [show nI 0 = (0 : Int32) from rfl] at mb0
    rw [hT.2.2.2.1, i_nle hi (by omega), mb, Option.bind_some, mb0, Option.bind_some, sh_n _ (by omega), sh_n _ (by omega), m_times hT hC hW hx ha hm (lt64 _ (by omega)) (lt64 _ (by omega)), Option.bind_some, nI_add, nI_1]
    have e : tms n T pl sp (kd x) (td x) a (amx n (T 1 i)) (fun r => (2 ^ amx n (T 0 a)).testBit r) (fun q => (2 ^ i).testBit q) = psg n T pl sp (kd x) (td x) a (amx n (T 1 i)) (amx n (T 0 a)) i := by
      rw [tms_congr (P' := fun r => r == amx n (T 0 a)) (Q' := fun q => q == i) (fun r _ => tb_one _ _) (fun q _ => tb_one _ _), tms_oo hm0 hi]
    rw [e]
    rfl
  · show bX11_overOf_5 τ (nI x) (nI a) (nI (sm n _)) (nI n) = _
    unfold bX11_overOf_5
    rw [hT.2.2.2.1, i_le (Nat.le_refl _) (by omega)]
end MTIMES
