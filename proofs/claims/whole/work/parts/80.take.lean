/-! WHAT IS READ, TAKEN -/
section TAKE
def pTk (n : Nat) (s : zSt) (r : Nat) (d : Nat → Nat) : Prop := (∀ b, b < n → zI s (33 + r) b = nI (d b)) ∧ zI s (33 + r) n = nI (12 - sm n d) ∧ zI s 45 r = nI (amx n d)
theorem pTk.mv {n r : Nat} {s s' : zSt} {d : Nat → Nat} (h : pTk n s r d) (h1 : ∀ b, zI s' (33 + r) b = zI s (33 + r) b) (h2 : zI s' 45 r = zI s 45 r) : pTk n s' r d := by
  refine ⟨fun b hb => ?_, ?_, ?_⟩
  · rw [h1]; exact h.1 b hb
  · rw [h1]; exact h.2.1
  · rw [h2]; exact h.2.2
theorem c_takeWord {σ : zSt} {n r : Nat} {d : Nat → Nat} (h1 : 1 ≤ n) (hn : n ≤ 6) (hr : r < 12) (hw : zI σ 3 0 = nI n) (hd : ∀ b, b < n → zI σ (19 + r) b = nI (d b)) (ok : rowOK n d) : ∃ σ', fX8_takeWord σ (19 + r) (nI r) = some σ' ∧ pTk n σ' r d ∧ (∀ c q, ¬ c = 33 + r → ¬ (c = 45 ∧ q = r) → zI σ' c q = zI σ c q) ∧ σ'.2 = σ.2 := by
  have ok9 := ok.1
  have ok12 := ok.2.2
  obtain ⟨⟨y1, y2, y3, s⟩, l1, l2, l3, l4, l5, l6⟩ : ∃ q : Int32 × Int32 × Int32 × zSt, zLp (fun a : Int32 × Int32 × Int32 × zSt => bX8_takeWord_9 (19 + r) (nI r) a.1 a.2.1 a.2.2.1 a.2.2.2) zFU ((12 : Int32), (0 : Int32), (0 : Int32), σ) = some q ∧ (q.1 = nI (12 - sm n d) ∧ q.2.1 = nI (amx n d) ∧ (∀ b, b < n → zI q.2.2.2 (33 + r) b = nI (d b)) ∧ (∀ c p, ¬ c = 33 + r → zI q.2.2.2 c p = zI σ c p) ∧ q.2.2.2.2 = σ.2) := by
    refine zl_inv (body := fun a : Int32 × Int32 × Int32 × zSt => bX8_takeWord_9 (19 + r) (nI r) a.1 a.2.1 a.2.2.1 a.2.2.2) (fun j q => q.1 = nI (12 - sm j d) ∧ q.2.1 = nI (amx j d) ∧ q.2.2.1 = nI j ∧ (∀ b, b < j → zI q.2.2.2 (33 + r) b = nI (d b)) ∧ (∀ c p, ¬ c = 33 + r → zI q.2.2.2 c p = zI σ c p) ∧ q.2.2.2.2 = σ.2) n _ ⟨rfl, rfl, rfl, fun b hb => absurd hb (Nat.not_lt_zero _), fun _ _ _ => rfl, rfl⟩ (fun j q hj hI => ?_) (fun q hI => ?_) (by omega)
    · obtain ⟨y1, y2, y3, s⟩ := q
      obtain ⟨g1, g2, g3, g4, g5, g6⟩ := hI
      have g1 : y1 = nI (12 - sm j d) := g1
      have g2 : y2 = nI (amx j d) := g2
      have g3 : y3 = nI j := g3
      subst g1 g2 g3
      have g4 : ∀ b, b < j → zI s (33 + r) b = nI (d b) := g4
      have g5 : ∀ c p, ¬ c = 33 + r → zI s c p = zI σ c p := g5
      have sj : sm (j + 1) d = sm j d + d j := rfl
      have sl := sm_mono (f := d) (i := j + 1) (n := n) (by omega)
      have ax : amx j d < n := by
        by_cases e : j = 0
        · subst e; show 0 < n; omega
        · have := amx_lt (n := j) (f := d) (by omega); omega
      have dj := ok9 j hj
      have da := ok9 _ ax
      have st : amx (j + 1) d = if d (amx j d) < d j then j else amx j d := rfl
      refine ⟨(nI (12 - sm (j + 1) d), nI (amx (j + 1) d), nI (j + 1), zwI s (33 + r) j (nI (d j))), ?_, rfl, rfl, rfl, fun b hb => ?_, fun c p hc => ?_, g6⟩
      · show bX8_takeWord_9 (19 + r) (nI r) (nI (12 - sm j d)) (nI (amx j d)) (nI j) s = _
        unfold bX8_takeWord_9
        rw [g5 3 0 (by omega), hw, i_nle hj (by omega), zrA_n (n := 12) (by decide) hr, Option.bind_some, show 32 + 1 + r = 33 + r by omega, zrI_n (zkDig r hr) (by omega), Option.bind_some, g5 (19 + r) j (by omega), hd j hj, zsI_n (zkTold r hr) (by omega), Option.bind_some, zrI_n (zkDig r hr) (by omega), Option.bind_some, Option.bind_some, zrI_n (zkDig r hr) (by omega), Option.bind_some, zI_ne (by omega), zI_ne (by omega), g5 (19 + r) j (by omega), g5 (19 + r) _ (by omega), hd j hj, hd _ ax, pk_sub (by omega), nI_1, sj, Nat.sub_sub, st]
        by_cases e : d (amx j d) < d j
        · rw [if_pos e, i_nle e (by omega)]
        · rw [if_neg e, i_le (by omega) (by omega)]
      · show zI (zwI s (33 + r) j (nI (d j))) (33 + r) b = _
        by_cases e : b = j
        · subst e; rw [zI_self]
        · rw [zI_ne (by omega)]; exact g4 b (by omega)
      · show zI (zwI s (33 + r) j (nI (d j))) c p = _
        rw [zI_ne (by omega)]
        exact g5 c p hc
    · obtain ⟨y1, y2, y3, s⟩ := q
      obtain ⟨g1, g2, g3, g4, g5, g6⟩ := hI
      have g3 : y3 = nI n := g3
      subst g3
      have g5 : ∀ c p, ¬ c = 33 + r → zI s c p = zI σ c p := g5
      refine ⟨(y1, y2, nI n, s), ?_, g1, g2, g4, g5, g6⟩
      show bX8_takeWord_9 (19 + r) (nI r) y1 y2 (nI n) s = _
      unfold bX8_takeWord_9
      rw [g5 3 0 (by omega), hw, i_le (Nat.le_refl _) (by omega)]
  have l2 : y1 = nI (12 - sm n d) := l2
  have l3 : y2 = nI (amx n d) := l3
  have l4 : ∀ b, b < n → zI s (33 + r) b = nI (d b) := l4
  have l5 : ∀ c p, ¬ c = 33 + r → zI s c p = zI σ c p := l5
  subst l2 l3
  unfold fX8_takeWord
  rw [l1, Option.bind_some, zrA_n (n := 12) (by decide) hr, Option.bind_some]
  dsimp only
  rw [l5 3 0 (by omega), hw, show 32 + 1 + r = 33 + r by omega, zsI_n (zkTold r hr) (by omega), Option.bind_some, zsI_n (n := 12) (by decide) hr, Option.bind_some]
  refine ⟨_, rfl, ⟨fun b hb => ?_, ?_, zI_self⟩, fun c q hc hq => ?_, l6⟩
  · rw [zI_ne (by omega), zI_ne (by omega)]; exact l4 b hb
  · rw [zI_ne (by omega), zI_self]
  · rw [zI_ne hq, zI_ne (by omega)]; exact l5 c q hc
theorem c_take {σ : zSt} {n : Nat} {D : Nat → Nat → Nat} (h1 : 1 ≤ n) (hn : n ≤ 6) (hD : ∀ w a, w < 2 → a < n → rowOK n (D (6 * w + a)) ∧ ∀ b, b < n → zI σ (19 + (6 * w + a)) b = nI (D (6 * w + a) b)) : ∃ σ', fX8_take σ 18 (nI n) = some σ' ∧ zI σ' 3 0 = nI n ∧ (∀ w a, w < 2 → a < n → pTk n σ' (6 * w + a) (D (6 * w + a))) ∧ (∀ c q, ¬ (33 ≤ c ∧ c ≤ 45) → ¬ (c = 3 ∧ q = 0) → zI σ' c q = zI σ c q) ∧ σ'.2 = σ.2 := by
  have inner : ∀ w s, w < 2 → (∀ w' a, w' < w → a < n → pTk n s (6 * w' + a) (D (6 * w' + a))) → (∀ c q, ¬ (33 ≤ c ∧ c ≤ 45) → zI s c q = zI (zwI σ 3 0 (nI n)) c q) → s.2 = σ.2 → ∃ q, zLp (fun a : Int32 × zSt => bX8_take_15 18 (nI n) (nI w) a.1 a.2) zFU ((0 : Int32), s) = some q ∧ ((∀ w' a, w' < w + 1 → a < n → pTk n q.2 (6 * w' + a) (D (6 * w' + a))) ∧ (∀ c p, ¬ (33 ≤ c ∧ c ≤ 45) → zI q.2 c p = zI (zwI σ 3 0 (nI n)) c p) ∧ q.2.2 = σ.2) := by
    intro w s hw k1 k2 k3
    refine zl_inv (body := fun a : Int32 × zSt => bX8_take_15 18 (nI n) (nI w) a.1 a.2) (fun j q => q.1 = nI j ∧ (∀ w' a, w' < w → a < n → pTk n q.2 (6 * w' + a) (D (6 * w' + a))) ∧ (∀ a, a < j → pTk n q.2 (6 * w + a) (D (6 * w + a))) ∧ (∀ c p, ¬ (33 ≤ c ∧ c ≤ 45) → zI q.2 c p = zI (zwI σ 3 0 (nI n)) c p) ∧ q.2.2 = σ.2) n _ ⟨rfl, k1, fun a ha => absurd ha (Nat.not_lt_zero _), k2, k3⟩ (fun j q hj hI => ?_) (fun q hI => ?_) (by omega)
    · obtain ⟨y1, s1⟩ := q
      obtain ⟨g1, g2, g3, g4, g5⟩ := hI
      have g1 : y1 = nI j := g1
      subst g1
      have g2 : ∀ w' a, w' < w → a < n → pTk n s1 (6 * w' + a) (D (6 * w' + a)) := g2
      have g3 : ∀ a, a < j → pTk n s1 (6 * w + a) (D (6 * w + a)) := g3
      have g4 : ∀ c p, ¬ (33 ≤ c ∧ c ≤ 45) → zI s1 c p = zI (zwI σ 3 0 (nI n)) c p := g4
      have g5 : s1.2 = σ.2 := g5
      obtain ⟨s2, t1, t2, t3, t4⟩ := c_takeWord (σ := s1) (n := n) (r := 6 * w + j) (d := D (6 * w + j)) h1 hn (by omega) (by rw [g4 3 0 (by omega), zI_self]) (fun b hb => by rw [g4 _ _ (by omega), zI_ne (by omega)]; exact (hD w j hw hj).2 b hb) (hD w j hw hj).1
      refine ⟨(nI (j + 1), s2), ?_, rfl, fun w' a hw' ha => ?_, fun a ha => ?_, fun c p hc => ?_, t4.trans g5⟩
      · show bX8_take_15 18 (nI n) (nI w) (nI j) s1 = _
        unfold bX8_take_15
        rw [i_nle hj (by omega), show (6 : Int32) = nI 6 from rfl, pk_mul, nI_add, zrA_n (n := 12) (by decide) (by omega), Option.bind_some, show 18 + 1 + (w * 6 + j) = 19 + (6 * w + j) by omega, show w * 6 + j = 6 * w + j by omega, t1, Option.bind_some, nI_1]
      · exact (g2 w' a hw' ha).mv (fun b => t3 _ _ (by omega) (by omega)) (t3 _ _ (by omega) (by omega))
      · by_cases e : a = j
        · subst e; exact t2
        · exact (g3 a (by omega)).mv (fun b => t3 _ _ (by omega) (by omega)) (t3 _ _ (by omega) (by omega))
      · show zI s2 c p = _
        rw [t3 c p (by omega) (by omega)]
        exact g4 c p hc
    · obtain ⟨y1, s1⟩ := q
      obtain ⟨g1, g2, g3, g4, g5⟩ := hI
      have g1 : y1 = nI n := g1
      subst g1
      refine ⟨(nI n, s1), ?_, fun w' a hw' ha => ?_, g4, g5⟩
      · show bX8_take_15 18 (nI n) (nI w) (nI n) s1 = _
        unfold bX8_take_15
        rw [i_le (Nat.le_refl _) (by omega)]
      · by_cases e : w' = w
        · subst e; exact g3 a ha
        · exact g2 w' a (by omega) ha
  obtain ⟨⟨y1, s⟩, l1, l2, l3, l4⟩ : ∃ q : Int32 × zSt, zLp (fun a : Int32 × zSt => bX8_take_7 18 (nI n) a.1 a.2) zFU ((0 : Int32), zwI σ 3 0 (nI n)) = some q ∧ ((∀ w' a, w' < 2 → a < n → pTk n q.2 (6 * w' + a) (D (6 * w' + a))) ∧ (∀ c p, ¬ (33 ≤ c ∧ c ≤ 45) → zI q.2 c p = zI (zwI σ 3 0 (nI n)) c p) ∧ q.2.2 = σ.2) := by
    refine zl_inv (body := fun a : Int32 × zSt => bX8_take_7 18 (nI n) a.1 a.2) (fun w q => q.1 = nI w ∧ (∀ w' a, w' < w → a < n → pTk n q.2 (6 * w' + a) (D (6 * w' + a))) ∧ (∀ c p, ¬ (33 ≤ c ∧ c ≤ 45) → zI q.2 c p = zI (zwI σ 3 0 (nI n)) c p) ∧ q.2.2 = σ.2) 2 _ ⟨rfl, fun w' a h => absurd h (Nat.not_lt_zero _), fun _ _ _ => rfl, rfl⟩ (fun w q hw hI => ?_) (fun q hI => ?_) (by decide)
    · obtain ⟨y1, s1⟩ := q
      obtain ⟨g1, g2, g3, g4⟩ := hI
      have g1 : y1 = nI w := g1
      subst g1
      obtain ⟨q2, t1, t2⟩ := inner w s1 hw g2 g3 g4
      refine ⟨(nI (w + 1), q2.2), ?_, rfl, t2⟩
      show bX8_take_7 18 (nI n) (nI w) s1 = _
      unfold bX8_take_7
      rw [if_neg (show ¬ (2 : Int32) ≤ nI w from nI_ge (b := 2) hw (by decide)), t1, Option.bind_some, nI_1]
    · obtain ⟨y1, s1⟩ := q
      obtain ⟨g1, g2, g3, g4⟩ := hI
      have g1 : y1 = nI 2 := g1
      subst g1
      refine ⟨(nI 2, s1), ?_, g2, g3, g4⟩
      show bX8_take_7 18 (nI n) (nI 2) s1 = _
      unfold bX8_take_7
      rw [if_pos (by decide)]
  have l2 : ∀ w' a, w' < 2 → a < n → pTk n s (6 * w' + a) (D (6 * w' + a)) := l2
  have l3 : ∀ c p, ¬ (33 ≤ c ∧ c ≤ 45) → zI s c p = zI (zwI σ 3 0 (nI n)) c p := l3
  unfold fX8_take
  rw [l1, Option.bind_some]
  refine ⟨s, rfl, ?_, l2, fun c q hc hq => ?_, l4⟩
  · rw [l3 3 0 (by omega), zI_self]
  · rw [l3 c q hc, zI_ne hq]
theorem m_copy72 {υ : zSt} : ∃ b, zLp (fun a : Int32 × zSt => bX11_tongues_95 a.1 a.2) zFU ((0 : Int32), υ) = some b ∧ (∀ c q, zI b.2 c q = if c = 4 ∧ q < 72 then zI υ 5 q else zI υ c q) := by
  refine zl_inv (body := fun a : Int32 × zSt => bX11_tongues_95 a.1 a.2) (fun j q => q.1 = nI j ∧ (∀ c p, zI q.2 c p = if c = 4 ∧ p < j then zI υ 5 p else zI υ c p)) 72 _ ⟨rfl, fun c p => by rw [if_neg (by omega)]⟩ (fun j q hj hI => ?_) (fun q hI => ?_) (by decide)
  · obtain ⟨y1, s⟩ := q
    obtain ⟨g1, g2⟩ := hI
    have g1 : y1 = nI j := g1
    subst g1
    have g2 : ∀ c p, zI s c p = if c = 4 ∧ p < j then zI υ 5 p else zI υ c p := g2
    refine ⟨(nI (j + 1), zwI s 4 j (zI υ 5 j)), ?_, rfl, fun c p => ?_⟩
    · show bX11_tongues_95 (nI j) s = _
      unfold bX11_tongues_95
      rw [if_neg (show ¬ (72 : Int32) ≤ nI j from nI_ge (b := 72) hj (by decide)), zrI_n (n := 72) (by decide) hj, Option.bind_some, zsI_n (n := 72) (by decide) hj, Option.bind_some, g2, if_neg (by omega), nI_1]
    · show zI (zwI s 4 j (zI υ 5 j)) c p = _
      by_cases e : c = 4 ∧ p = j
      · obtain ⟨rfl, rfl⟩ := e
        rw [zI_self, if_pos (by omega)]
      · rw [zI_ne e, g2]
        by_cases e2 : c = 4 ∧ p < j
        · rw [if_pos e2, if_pos (by omega)]
        · rw [if_neg e2, if_neg (by omega)]
  · obtain ⟨y1, s⟩ := q
    obtain ⟨g1, g2⟩ := hI
    have g1 : y1 = nI 72 := g1
    subst g1
    refine ⟨(nI 72, s), ?_, g2⟩
    show bX11_tongues_95 (nI 72) s = _
    unfold bX11_tongues_95
    rw [if_pos (by decide)]
theorem m_copy36 {υ : zSt} : ∃ b, zLp (fun a : Int32 × zSt => bX11_witness_115 a.1 a.2) zFU ((0 : Int32), υ) = some b ∧ (∀ c q, zI b.2 c q = if c = 10 ∧ q < 36 then zI υ 5 q else zI υ c q) := by
  refine zl_inv (body := fun a : Int32 × zSt => bX11_witness_115 a.1 a.2) (fun j q => q.1 = nI j ∧ (∀ c p, zI q.2 c p = if c = 10 ∧ p < j then zI υ 5 p else zI υ c p)) 36 _ ⟨rfl, fun c p => by rw [if_neg (by omega)]⟩ (fun j q hj hI => ?_) (fun q hI => ?_) (by decide)
  · obtain ⟨y1, s⟩ := q
    obtain ⟨g1, g2⟩ := hI
    have g1 : y1 = nI j := g1
    subst g1
    have g2 : ∀ c p, zI s c p = if c = 10 ∧ p < j then zI υ 5 p else zI υ c p := g2
    refine ⟨(nI (j + 1), zwI s 10 j (zI υ 5 j)), ?_, rfl, fun c p => ?_⟩
    · show bX11_witness_115 (nI j) s = _
      unfold bX11_witness_115
      rw [if_neg (show ¬ (36 : Int32) ≤ nI j from nI_ge (b := 36) hj (by decide)), zrI_n (n := 72) (by decide) (by omega), Option.bind_some, zsI_n (n := 36) (by decide) hj, Option.bind_some, g2, if_neg (by omega), nI_1]
    · show zI (zwI s 10 j (zI υ 5 j)) c p = _
      by_cases e : c = 10 ∧ p = j
      · obtain ⟨rfl, rfl⟩ := e
        rw [zI_self, if_pos (by omega)]
      · rw [zI_ne e, g2]
        by_cases e2 : c = 10 ∧ p < j
        · rw [if_pos e2, if_pos (by omega)]
        · rw [if_neg e2, if_neg (by omega)]
  · obtain ⟨y1, s⟩ := q
    obtain ⟨g1, g2⟩ := hI
    have g1 : y1 = nI 36 := g1
    subst g1
    refine ⟨(nI 36, s), ?_, g2⟩
    show bX11_witness_115 (nI 36) s = _
    unfold bX11_witness_115
    rw [if_pos (by decide)]
def pTi (n pl : Nat) (s : zSt) (a : Nat) (D : Nat → Nat → Nat) : Prop := (∀ b, b < n → zI s (49 + a) b = nI (ans pl D a b)) ∧ zI s (49 + a) n = nI ((12 - sm n (D a)) * (12 - pl))
theorem c_takeW {σ : zSt} {n pl : Nat} {D : Nat → Nat → Nat} (h1 : 2 ≤ n) (hn : n ≤ 6) (hpl : pl ≤ 9) (hD : ∀ a, a < n → rowOK n (D a) ∧ ∀ b, b < n → zI σ (19 + a) b = nI (D a b)) : ∃ σ', fX9_take σ 18 (nI n) (nI pl) = some σ' ∧ zI σ' 5 1 = 1 ∧ zI σ' 5 2 = nI pl ∧ (∀ a, a < n → pTi n pl σ' a D) ∧ (∀ c q, ¬ (49 ≤ c ∧ c ≤ 54) → ¬ (c = 5 ∧ (q = 1 ∨ q = 2)) → zI σ' c q = zI σ c q) ∧ σ'.2 = σ.2 := by
  obtain ⟨⟨y1, s⟩, l1, l2, l3, l4⟩ : ∃ q : Int32 × zSt, zLp (fun a : Int32 × zSt => bX9_take_13 18 (nI n) a.1 a.2) zFU ((0 : Int32), zwI (zwI σ 5 1 (1 : Int32)) 5 2 (nI pl)) = some q ∧ ((∀ a, a < n → pTi n pl q.2 a D) ∧ (∀ c p, ¬ (49 ≤ c ∧ c ≤ 54) → zI q.2 c p = zI (zwI (zwI σ 5 1 (1 : Int32)) 5 2 (nI pl)) c p) ∧ q.2.2 = σ.2) := by
    refine zl_inv (body := fun a : Int32 × zSt => bX9_take_13 18 (nI n) a.1 a.2) (fun a q => q.1 = nI a ∧ (∀ a', a' < a → pTi n pl q.2 a' D) ∧ (∀ c p, ¬ (49 ≤ c ∧ c ≤ 54) → zI q.2 c p = zI (zwI (zwI σ 5 1 (1 : Int32)) 5 2 (nI pl)) c p) ∧ q.2.2 = σ.2) n _ ⟨rfl, fun a h => absurd h (Nat.not_lt_zero _), fun _ _ _ => rfl, rfl⟩ (fun a q ha hI => ?_) (fun q hI => ?_) (by omega)
    · obtain ⟨y1, s1⟩ := q
      obtain ⟨g1, g2, g3, g4⟩ := hI
      have g1 : y1 = nI a := g1
      subst g1
      have g2 : ∀ a', a' < a → pTi n pl s1 a' D := g2
      have g3 : ∀ c p, ¬ (49 ≤ c ∧ c ≤ 54) → zI s1 c p = zI (zwI (zwI σ 5 1 (1 : Int32)) 5 2 (nI pl)) c p := g3
      have g4 : s1.2 = σ.2 := g4
      have ok := (hD a ha).1
      obtain ⟨⟨z1, z2, s2⟩, k1, k2, k3, k4, k5⟩ : ∃ q : Int32 × Int32 × zSt, zLp (fun r : Int32 × Int32 × zSt => bX9_take_26 18 (nI n) (nI a) r.1 r.2.1 r.2.2) zFU ((12 : Int32), (0 : Int32), s1) = some q ∧ (q.1 = nI (12 - sm n (D a)) ∧ (∀ b, b < n → zI q.2.2 (49 + a) b = nI (D a b * (12 - pl))) ∧ (∀ c p, ¬ c = 49 + a → zI q.2.2 c p = zI s1 c p) ∧ q.2.2.2 = σ.2) := by
        refine zl_inv (body := fun r : Int32 × Int32 × zSt => bX9_take_26 18 (nI n) (nI a) r.1 r.2.1 r.2.2) (fun j q => q.1 = nI (12 - sm j (D a)) ∧ q.2.1 = nI j ∧ (∀ b, b < j → zI q.2.2 (49 + a) b = nI (D a b * (12 - pl))) ∧ (∀ c p, ¬ c = 49 + a → zI q.2.2 c p = zI s1 c p) ∧ q.2.2.2 = σ.2) n _ ⟨rfl, rfl, fun b h => absurd h (Nat.not_lt_zero _), fun _ _ _ => rfl, g4⟩ (fun j q hj hI => ?_) (fun q hI => ?_) (by omega)
        · obtain ⟨z1, z2, s2⟩ := q
          obtain ⟨m1, m2, m3, m4, m5⟩ := hI
          have m1 : z1 = nI (12 - sm j (D a)) := m1
          have m2 : z2 = nI j := m2
          subst m1 m2
          have m3 : ∀ b, b < j → zI s2 (49 + a) b = nI (D a b * (12 - pl)) := m3
          have m4 : ∀ c p, ¬ c = 49 + a → zI s2 c p = zI s1 c p := m4
          have sj : sm (j + 1) (D a) = sm j (D a) + D a j := rfl
          have sl := sm_mono (f := D a) (i := j + 1) (n := n) (by omega)
          have so := ok.2.2
          have d19 : zI s2 (19 + a) j = nI (D a j) := by
            rw [m4 _ _ (by omega), g3 _ _ (by omega), zI_ne (by omega), zI_ne (by omega)]
            exact (hD a ha).2 j hj
          have d52 : zI s2 5 2 = nI pl := by
            rw [m4 _ _ (by omega), g3 _ _ (by omega), zI_self]
          refine ⟨(nI (12 - sm (j + 1) (D a)), nI (j + 1), zwI s2 (49 + a) j (nI (D a j * (12 - pl)))), ?_, rfl, rfl, fun b hb => ?_, fun c p hc => ?_, m5⟩
          · show bX9_take_26 18 (nI n) (nI a) (nI (12 - sm j (D a))) (nI j) s2 = _
            unfold bX9_take_26
            rw [i_nle hj (by omega), zrA_n (w := 0) (j := 48) (n := 6) (by decide) (by omega), Option.bind_some, zrA_n (w := 0) (j := 18) (n := 12) (by decide) (by omega), Option.bind_some, show 48 + 1 + a = 49 + a by omega, show 18 + 1 + a = 19 + a by omega, zrI_n (zkDig a (by omega)) (by omega), Option.bind_some, d19, d52, show (12 : Int32) = nI 12 from rfl, pk_sub (show pl ≤ 12 by omega), pk_mul, zsI_n (zkTimes a (by omega)) (by omega), Option.bind_some, Option.bind_some, zrI_n (zkDig a (by omega)) (by omega), Option.bind_some, zI_ne (by omega), d19, pk_sub (by omega), Nat.sub_sub, ← sj, nI_1]
          · show zI (zwI s2 (49 + a) j _) (49 + a) b = _
            by_cases e : b = j
            · subst e; rw [zI_self]
            · rw [zI_ne (by omega)]; exact m3 b (by omega)
          · show zI (zwI s2 (49 + a) j _) c p = _
            rw [zI_ne (by omega)]
            exact m4 c p hc
        · obtain ⟨z1, z2, s2⟩ := q
          obtain ⟨m1, m2, m3⟩ := hI
          have m2 : z2 = nI n := m2
          subst m2
          refine ⟨(z1, nI n, s2), ?_, m1, m3⟩
          show bX9_take_26 18 (nI n) (nI a) z1 (nI n) s2 = _
          unfold bX9_take_26
          rw [i_le (Nat.le_refl _) (by omega)]
      have k2 : z1 = nI (12 - sm n (D a)) := k2
      subst k2
      have k3 : ∀ b, b < n → zI s2 (49 + a) b = nI (D a b * (12 - pl)) := k3
      have k4 : ∀ c p, ¬ c = 49 + a → zI s2 c p = zI s1 c p := k4
      have d52 : zI s2 5 2 = nI pl := by
        rw [k4 _ _ (by omega), g3 _ _ (by omega), zI_self]
      refine ⟨(nI (a + 1), zwI (zwI s2 (49 + a) n (nI ((12 - sm n (D a)) * (12 - pl)))) (49 + a) 0 (nI (D a 0 * (12 - pl) + 12 * pl))), ?_, rfl, fun a' ha' => ?_, fun c p hc => ?_, k5⟩
      · show bX9_take_13 18 (nI n) (nI a) s1 = _
        unfold bX9_take_13
        rw [i_nle ha (by omega), k1, Option.bind_some, zrA_n (w := 0) (j := 48) (n := 6) (by decide) (by omega), Option.bind_some, show 48 + 1 + a = 49 + a by omega]
        dsimp only
        rw [d52, show (12 : Int32) = nI 12 from rfl, pk_sub (show pl ≤ 12 by omega), pk_mul, zsI_n (zkTimes a (by omega)) (by omega), Option.bind_some, Option.bind_some, zI_ne (by omega), d52, pk_mul, show (0 : Int32) = nI 0 from rfl, zrI_n (zkTimes a (by omega)) (by omega), Option.bind_some, zI_ne (by omega), k3 0 (by omega), nI_add, zsI_n (zkTimes a (by omega)) (by omega), Option.bind_some, nI_1]
      · by_cases e : a' = a
        · subst e
          refine ⟨fun b hb => ?_, ?_⟩
          · show zI (zwI (zwI s2 (49 + a') n _) (49 + a') 0 _) (49 + a') b = _
            unfold ans
            by_cases e0 : b = 0
            · subst e0
              rw [zI_self, if_pos rfl]
            · rw [zI_ne (by omega), zI_ne (by omega), k3 b hb, if_neg e0]
              rfl
          · show zI (zwI (zwI s2 (49 + a') n _) (49 + a') 0 _) (49 + a') n = _
            rw [zI_ne (by omega), zI_self]
        · have old := g2 a' (by omega)
          refine ⟨fun b hb => ?_, ?_⟩
          · show zI (zwI (zwI s2 (49 + a) n _) (49 + a) 0 _) (49 + a') b = _
            rw [zI_ne (by omega), zI_ne (by omega), k4 _ _ (by omega)]
            exact old.1 b hb
          · show zI (zwI (zwI s2 (49 + a) n _) (49 + a) 0 _) (49 + a') n = _
            rw [zI_ne (by omega), zI_ne (by omega), k4 _ _ (by omega)]
            exact old.2
      · show zI (zwI (zwI s2 (49 + a) n _) (49 + a) 0 _) c p = _
        rw [zI_ne (by omega), zI_ne (by omega), k4 _ _ (by omega)]
        exact g3 c p hc
    · obtain ⟨y1, s1⟩ := q
      obtain ⟨g1, g2⟩ := hI
      have g1 : y1 = nI n := g1
      subst g1
      refine ⟨(nI n, s1), ?_, g2⟩
      show bX9_take_13 18 (nI n) (nI n) s1 = _
      unfold bX9_take_13
      rw [i_le (Nat.le_refl _) (by omega)]
  have l2 : ∀ a, a < n → pTi n pl s a D := l2
  have l3 : ∀ c p, ¬ (49 ≤ c ∧ c ≤ 54) → zI s c p = zI (zwI (zwI σ 5 1 (1 : Int32)) 5 2 (nI pl)) c p := l3
  unfold fX9_take
  rw [l1, Option.bind_some]
  refine ⟨s, rfl, ?_, ?_, l2, fun c q hc hq => ?_, l4⟩
  · rw [l3 _ _ (by omega), zI_ne (by omega), zI_self]
  · rw [l3 _ _ (by omega), zI_self]
  · rw [l3 c q hc, zI_ne (by omega), zI_ne (by omega)]
end TAKE
