/-! SHIFTS, the reference -/
section SHIFTM
def spt (m a b l : Nat) : Nat := ((m * 10 + a) * 10 + b) * 3 + l
theorem m_spot (m a b l : Nat) : fX11_spot (nI m) (nI a) (nI b) (nI l) = nI (spt m a b l) := by
  unfold fX11_spot spt
  rw [show (10 : Int32) = nI 10 from rfl, show (3 : Int32) = nI 3 from rfl, pk_mul, nI_add, pk_mul, nI_add, pk_mul, nI_add]
theorem m_more {a : Nat} (ha : a < 100) : fX11_more (nI a) = nI (sMo a) := by
  unfold fX11_more sMo
  by_cases e : 9 ≤ a
  · rw [if_pos (show (9 : Int32) ≤ nI a from nI_le (a := 9) e (by omega)), if_pos e]
    rfl
  · rw [if_neg (show ¬ (9 : Int32) ≤ nI a from nI_ge (b := 9) (by omega) (by decide)), if_neg e]
    exact nI_1 a
theorem m_less {a : Nat} (ha : a < 100) : fX11_less (nI a) = nI (a - 1) := by
  unfold fX11_less
  cases a with
  | zero => rfl
  | succ a => rw [if_neg (show ¬ nI (a + 1) ≤ (0 : Int32) from nI_ge (a := 0) (by omega) (by omega)), nI_pred]; rfl
theorem m_cost0 {τ : zSt} {j a b l c : Nat} (hj : j < 40) (ha : a ≤ 9) (hb : b ≤ 9) (hl : l ≤ 2) : fX11_costBy τ (nI j) (nI a) (nI b) (nI l) 0 (nI c) = some (nI (a + lcs l 0 c) + zI τ 17 (spt (j + 1) (sMo a) (b - 1) 0)) := by
  have hs := sMo_le (a := a)
  have sp : fX11_spot (nI j + 1) (fX11_more (nI a)) (fX11_less (nI b)) (0 : Int32) = nI (spt (j + 1) (sMo a) (b - 1) 0) := by
    rw [nI_1, m_more (by omega), m_less (by omega)]
    exact m_spot _ _ _ 0
  have rd : zrI 1 τ 17 (nI (spt (j + 1) (sMo a) (b - 1) 0)) = some (zI τ 17 (spt (j + 1) (sMo a) (b - 1) 0)) := zrI_n (n := 12300) (by decide) (by unfold spt; omega)
  unfold fX11_costBy
  rw [if_pos (show (0 : Int32) = 0 from rfl), if_pos (show (0 : Int32) = 0 from rfl), if_neg (show ¬ (0 : Int32) = 1 by decide), if_pos (show (0 : Int32) = 0 from rfl), if_neg (show ¬ (0 : Int32) = 1 by decide), sp, rd, Option.bind_some, Option.bind_some]
  rcases (show l = 2 ∨ l = 0 ∨ l = 1 by omega) with rfl | rfl | rfl
  · rw [if_pos (show nI 2 = (2 : Int32) from rfl), Int32.add_zero]
    rfl
  · rw [if_neg (show ¬ nI 0 = (2 : Int32) by decide), if_pos (show nI 0 = (0 : Int32) from rfl), Int32.add_zero]
    rfl
  · rw [if_neg (show ¬ nI 1 = (2 : Int32) by decide), if_neg (show ¬ nI 1 = (0 : Int32) by decide), nI_add]
    rfl
theorem m_cost1 {τ : zSt} {j a b l c : Nat} (hj : j < 40) (ha : a ≤ 9) (hb : b ≤ 9) (hl : l ≤ 2) : fX11_costBy τ (nI j) (nI a) (nI b) (nI l) 1 (nI c) = some (nI (b + lcs l 1 c) + zI τ 17 (spt (j + 1) (a - 1) (sMo b) 1)) := by
  have hs := sMo_le (a := b)
  have sp : fX11_spot (nI j + 1) (fX11_less (nI a)) (fX11_more (nI b)) (1 : Int32) = nI (spt (j + 1) (a - 1) (sMo b) 1) := by
    rw [nI_1, m_more (by omega), m_less (by omega)]
    exact m_spot _ _ _ 1
  have rd : zrI 1 τ 17 (nI (spt (j + 1) (a - 1) (sMo b) 1)) = some (zI τ 17 (spt (j + 1) (a - 1) (sMo b) 1)) := zrI_n (n := 12300) (by decide) (by unfold spt; omega)
  unfold fX11_costBy
  rw [if_neg (show ¬ (1 : Int32) = 0 by decide), if_neg (show ¬ (1 : Int32) = 0 by decide), if_pos (show (1 : Int32) = 1 from rfl), if_neg (show ¬ (1 : Int32) = 0 by decide), if_pos (show (1 : Int32) = 1 from rfl), sp, rd, Option.bind_some, Option.bind_some]
  rcases (show l = 2 ∨ l = 0 ∨ l = 1 by omega) with rfl | rfl | rfl
  · rw [if_pos (show nI 2 = (2 : Int32) from rfl), Int32.add_zero]
    rfl
  · rw [if_neg (show ¬ nI 0 = (2 : Int32) by decide), if_neg (show ¬ nI 0 = (1 : Int32) by decide), nI_add]
    rfl
  · rw [if_neg (show ¬ nI 1 = (2 : Int32) by decide), if_pos (show nI 1 = (1 : Int32) from rfl), Int32.add_zero]
    rfl
def lay (m c k : Nat) : Int32 := nI (lct (m - k / 300) (k % 300 / 30) (k % 30 / 3) (k % 3) c)
theorem lay_spt {m c j a b l : Nat} (ha : a ≤ 9) (hb : b ≤ 9) (hl : l ≤ 2) : lay m c (spt j a b l) = nI (lct (m - j) a b l c) := by
  unfold lay spt
  rw [show (((j * 10 + a) * 10 + b) * 3 + l) / 300 = j by omega, show (((j * 10 + a) * 10 + b) * 3 + l) % 300 / 30 = a by omega, show (((j * 10 + a) * 10 + b) * 3 + l) % 30 / 3 = b by omega, show (((j * 10 + a) * 10 + b) * 3 + l) % 3 = l by omega]
/-- what is laid: all later minutes, and the first p of minute j -/
def pLy (τ s : zSt) (m c j p : Nat) : Prop := (∀ c' k, ¬ c' = 17 → zI s c' k = zI τ c' k) ∧ (∀ k, 300 * (j + 1) ≤ k → k < 300 * (m + 1) → zI s 17 k = lay m c k) ∧ ∀ k, 300 * j ≤ k → k < 300 * j + p → zI s 17 k = lay m c k
theorem m_lay1 {τ s : zSt} {m c j a b l : Nat} (hc : c ≤ 9) (hm : m ≤ 40) (hj : j < m) (ha : a ≤ 9) (hb : b ≤ 9) (hl : l ≤ 2) (h : pLy τ s m c j ((a * 10 + b) * 3 + l)) : ∃ s', bX11_layLeast_61 (nI c) (nI j) (nI a) (nI b) (nI l) s = some (Sum.inl (nI (l + 1), s')) ∧ pLy τ s' m c j ((a * 10 + b) * 3 + (l + 1)) := by
  obtain ⟨h1, h2, h3⟩ := h
  have hs := sMo_le (a := a)
  have hs2 := sMo_le (a := b)
  obtain ⟨k, hk⟩ : ∃ k, m - j = k + 1 := ⟨m - j - 1, by omega⟩
  have hk1 : m - (j + 1) = k := by omega
  have e0 : zI s 17 (spt (j + 1) (sMo a) (b - 1) 0) = nI (lct k (sMo a) (b - 1) 0 c) := by
    rw [h2 _ (by unfold spt; omega) (by unfold spt; omega), lay_spt hs (by omega) (by omega), hk1]
  have e1 : zI s 17 (spt (j + 1) (a - 1) (sMo b) 1) = nI (lct k (a - 1) (sMo b) 1 c) := by
    rw [h2 _ (by unfold spt; omega) (by unfold spt; omega), lay_spt (by omega) hs2 (by omega), hk1]
  have b0 := lct_le k (sMo a) (b - 1) 0 c hs (by omega) hc
  have b1 := lct_le k (a - 1) (sMo b) 1 c (by omega) hs2 hc
  have c0 := lcs_le (l := l) (w := 0) hc
  have c1 := lcs_le (l := l) (w := 1) hc
  have st : lct (m - j) a b l c = min (a + lcs l 0 c + lct k (sMo a) (b - 1) 0 c) (b + lcs l 1 c + lct k (a - 1) (sMo b) 1 c) := by rw [hk]; rfl
  have wr : ∀ v : Int32, zsI 1 s 17 (nI (spt j a b l)) v = some (zwI s 17 (spt j a b l) v) := fun v => zsI_n (n := 12300) (by decide) (by unfold spt; omega)
  have key : pLy τ (zwI s 17 (spt j a b l) (nI (lct (m - j) a b l c))) m c j ((a * 10 + b) * 3 + (l + 1)) := by
    refine ⟨fun c' k hc' => ?_, fun q hq1 hq2 => ?_, fun q hq1 hq2 => ?_⟩
    · rw [zI_ne (fun q => hc' q.1)]
      exact h1 c' k hc'
    · rw [zI_ne (by unfold spt; omega)]
      exact h2 q hq1 hq2
    · by_cases e : q = spt j a b l
      · rw [e, zI_self, lay_spt ha hb hl]
      · rw [zI_ne (fun p => e p.2)]
        exact h3 q hq1 (by unfold spt at e; omega)
  unfold bX11_layLeast_61
  rw [if_neg (show ¬ (3 : Int32) ≤ nI l from nI_ge (b := 3) (by omega) (by decide)), m_cost0 (by omega) ha hb hl, m_cost1 (by omega) ha hb hl, Option.bind_some, Option.bind_some, e0, e1, nI_add, nI_add, m_spot, wr, wr, Option.bind_some, Option.bind_some, nI_1]
  rw [st] at key
  by_cases q : b + lcs l 1 c + lct k (a - 1) (sMo b) 1 c ≤ a + lcs l 0 c + lct k (sMo a) (b - 1) 0 c
  · rw [i_le q (by omega)]
    rw [Nat.min_eq_right q] at key
    exact ⟨_, rfl, key⟩
  · rw [i_nle (by omega) (by omega)]
    rw [Nat.min_eq_left (by omega)] at key
    exact ⟨_, rfl, key⟩
theorem m_lay3 {τ s : zSt} {m c j a b : Nat} (hc : c ≤ 9) (hm : m ≤ 40) (hj : j < m) (ha : a ≤ 9) (hb : b ≤ 9) (h : pLy τ s m c j ((a * 10 + b) * 3)) : ∃ q, zLp (fun r : Int32 × zSt => bX11_layLeast_61 (nI c) (nI j) (nI a) (nI b) r.1 r.2) zFU ((0 : Int32), s) = some q ∧ pLy τ q.2 m c j ((a * 10 + (b + 1)) * 3) := by
  refine zl_inv (body := fun r : Int32 × zSt => bX11_layLeast_61 (nI c) (nI j) (nI a) (nI b) r.1 r.2) (fun l r => r.1 = nI l ∧ pLy τ r.2 m c j ((a * 10 + b) * 3 + l)) 3 (fun q => pLy τ q.2 m c j ((a * 10 + (b + 1)) * 3)) ⟨rfl, h⟩ (fun l r hl hI => ?_) (fun r hI => ?_) (by decide)
  · obtain ⟨x, r⟩ := r
    obtain ⟨g1, g2⟩ := hI
    have g1 : x = nI l := g1
    subst g1
    obtain ⟨s', f1, f2⟩ := m_lay1 hc hm hj ha hb (by omega) g2
    exact ⟨_, f1, rfl, f2⟩
  · obtain ⟨x, r⟩ := r
    obtain ⟨g1, g2⟩ := hI
    have g1 : x = nI 3 := g1
    subst g1
    refine ⟨(nI 3, r), ?_, ?_⟩
    · show bX11_layLeast_61 (nI c) (nI j) (nI a) (nI b) (nI 3) r = _
      unfold bX11_layLeast_61
      rw [if_pos (by decide)]
    · show pLy τ r m c j ((a * 10 + (b + 1)) * 3)
      rw [show (a * 10 + (b + 1)) * 3 = (a * 10 + b) * 3 + 3 by omega]
      exact g2
theorem m_lay30 {τ s : zSt} {m c j a : Nat} (hc : c ≤ 9) (hm : m ≤ 40) (hj : j < m) (ha : a ≤ 9) (h : pLy τ s m c j (a * 30)) : ∃ q, zLp (fun r : Int32 × zSt => bX11_layLeast_51 (nI c) (nI j) (nI a) r.1 r.2) zFU ((0 : Int32), s) = some q ∧ pLy τ q.2 m c j ((a + 1) * 30) := by
  refine zl_inv (body := fun r : Int32 × zSt => bX11_layLeast_51 (nI c) (nI j) (nI a) r.1 r.2) (fun b r => r.1 = nI b ∧ pLy τ r.2 m c j ((a * 10 + b) * 3)) 10 (fun q => pLy τ q.2 m c j ((a + 1) * 30)) ⟨rfl, ?_⟩ (fun b r hb hI => ?_) (fun r hI => ?_) (by decide)
  · show pLy τ s m c j ((a * 10 + 0) * 3)
    rw [show (a * 10 + 0) * 3 = a * 30 by omega]
    exact h
  · obtain ⟨x, r⟩ := r
    obtain ⟨g1, g2⟩ := hI
    have g1 : x = nI b := g1
    subst g1
    obtain ⟨q, f1, f2⟩ := m_lay3 hc hm hj ha (by omega) g2
    refine ⟨(nI b + 1, q.2), ?_, nI_1 b, f2⟩
    show bX11_layLeast_51 (nI c) (nI j) (nI a) (nI b) r = _
    unfold bX11_layLeast_51
    rw [if_neg (show ¬ (10 : Int32) ≤ nI b from nI_ge (b := 10) (by omega) (by decide)), f1, Option.bind_some]
  · obtain ⟨x, r⟩ := r
    obtain ⟨g1, g2⟩ := hI
    have g1 : x = nI 10 := g1
    subst g1
    refine ⟨(nI 10, r), ?_, ?_⟩
    · show bX11_layLeast_51 (nI c) (nI j) (nI a) (nI 10) r = _
      unfold bX11_layLeast_51
      rw [if_pos (by decide)]
    · show pLy τ r m c j ((a + 1) * 30)
      rw [show (a + 1) * 30 = (a * 10 + 10) * 3 by omega]
      exact g2
theorem m_lay300 {τ s : zSt} {m c j : Nat} (hc : c ≤ 9) (hm : m ≤ 40) (hj : j < m) (h : pLy τ s m c j 0) : ∃ q, zLp (fun r : Int32 × zSt => bX11_layLeast_41 (nI c) (nI j) r.1 r.2) zFU ((0 : Int32), s) = some q ∧ pLy τ q.2 m c j 300 := by
  refine zl_inv (body := fun r : Int32 × zSt => bX11_layLeast_41 (nI c) (nI j) r.1 r.2) (fun a r => r.1 = nI a ∧ pLy τ r.2 m c j (a * 30)) 10 (fun q => pLy τ q.2 m c j 300) ⟨rfl, by rw [Nat.zero_mul]; exact h⟩ (fun a r ha hI => ?_) (fun r hI => ?_) (by decide)
  · obtain ⟨x, r⟩ := r
    obtain ⟨g1, g2⟩ := hI
    have g1 : x = nI a := g1
    subst g1
    obtain ⟨q, f1, f2⟩ := m_lay30 hc hm hj (by omega) g2
    refine ⟨(nI a + 1, q.2), ?_, nI_1 a, f2⟩
    show bX11_layLeast_41 (nI c) (nI j) (nI a) r = _
    unfold bX11_layLeast_41
    rw [if_neg (show ¬ (10 : Int32) ≤ nI a from nI_ge (b := 10) (by omega) (by decide)), f1, Option.bind_some]
  · obtain ⟨x, r⟩ := r
    obtain ⟨g1, g2⟩ := hI
    have g1 : x = nI 10 := g1
    subst g1
    refine ⟨(nI 10, r), ?_, g2⟩
    show bX11_layLeast_41 (nI c) (nI j) (nI 10) r = _
    unfold bX11_layLeast_41
    rw [if_pos (by decide)]
theorem m_layLeast {τ : zSt} {m c : Nat} (hc : c ≤ 9) (hm1 : 1 ≤ m) (hm : m ≤ 40) : ∃ τ', fX11_layLeast τ (nI m) (nI c) = some τ' ∧ (∀ c' k, ¬ c' = 17 → zI τ' c' k = zI τ c' k) ∧ ∀ j a b l, j ≤ m → a ≤ 9 → b ≤ 9 → l ≤ 2 → zI τ' 17 (spt j a b l) = nI (lct (m - j) a b l c) := by
  obtain ⟨⟨y1, s1⟩, l1, l2, l3⟩ : ∃ q : Int32 × zSt, zLp (fun r : Int32 × zSt => bX11_layLeast_2 (nI m) (nI c) r.1 r.2) zFU ((0 : Int32), τ) = some q ∧ ((∀ c' k, ¬ c' = 17 → zI q.2 c' k = zI τ c' k) ∧ ∀ k, k < 300 → zI q.2 17 (300 * m + k) = 0) := by
    refine zl_inv (body := fun r : Int32 × zSt => bX11_layLeast_2 (nI m) (nI c) r.1 r.2) (fun i r => r.1 = nI i ∧ (∀ c' k, ¬ c' = 17 → zI r.2 c' k = zI τ c' k) ∧ ∀ k, k < i → zI r.2 17 (300 * m + k) = 0) 300 _ ⟨rfl, fun _ _ _ => rfl, fun k hk => absurd hk (Nat.not_lt_zero _)⟩ (fun i r hi hI => ?_) (fun r hI => ?_) (by decide)
    · obtain ⟨x, r⟩ := r
      obtain ⟨g1, g2, g3⟩ := hI
      have g1 : x = nI i := g1
      subst g1
      have g2 : ∀ c' k, ¬ c' = 17 → zI r c' k = zI τ c' k := g2
      have g3 : ∀ k, k < i → zI r 17 (300 * m + k) = 0 := g3
      have sp : fX11_spot (nI m) (0 : Int32) (0 : Int32) (0 : Int32) = nI (spt m 0 0 0) := m_spot m 0 0 0
      refine ⟨(nI i + 1, zwI r 17 (300 * m + i) 0), ?_, nI_1 i, fun c' k hc' => ?_, fun k hk => ?_⟩
      · show bX11_layLeast_2 (nI m) (nI c) (nI i) r = _
        unfold bX11_layLeast_2
        rw [if_neg (show ¬ (300 : Int32) ≤ nI i from nI_ge (b := 300) (by omega) (by decide)), sp, nI_add, show spt m 0 0 0 + i = 300 * m + i by unfold spt; omega, zsI_n (n := 12300) (by decide) (by omega), Option.bind_some]
      · show zI (zwI r 17 (300 * m + i) 0) c' k = _
        rw [zI_ne (fun q => hc' q.1)]
        exact g2 c' k hc'
      · show zI (zwI r 17 (300 * m + i) 0) 17 (300 * m + k) = _
        rw [zI_wI]
        split
        · rfl
        · exact g3 k (by omega)
    · obtain ⟨x, r⟩ := r
      obtain ⟨g1, g2⟩ := hI
      have g1 : x = nI 300 := g1
      subst g1
      refine ⟨(nI 300, r), ?_, g2⟩
      show bX11_layLeast_2 (nI m) (nI c) (nI 300) r = _
      unfold bX11_layLeast_2
      rw [if_pos (by decide)]
  have l2 : ∀ c' k, ¬ c' = 17 → zI s1 c' k = zI τ c' k := l2
  have l3 : ∀ k, k < 300 → zI s1 17 (300 * m + k) = 0 := l3
  obtain ⟨⟨y2, s2⟩, o1, o2, o3⟩ : ∃ q : Int32 × zSt, zLp (fun r : Int32 × zSt => bX11_layLeast_34 (nI c) r.1 r.2) zFU (nI m - 1, s1) = some q ∧ ((∀ c' k, ¬ c' = 17 → zI q.2 c' k = zI τ c' k) ∧ ∀ k, k < 300 * (m + 1) → zI q.2 17 k = lay m c k) := by
    refine zl_inv (body := fun r : Int32 × zSt => bX11_layLeast_34 (nI c) r.1 r.2) (fun i r => r.1 = nI (m - i) + (-1) ∧ (∀ c' k, ¬ c' = 17 → zI r.2 c' k = zI τ c' k) ∧ ∀ k, 300 * (m - i) ≤ k → k < 300 * (m + 1) → zI r.2 17 k = lay m c k) m _ ⟨?_, l2, fun k h1 h2 => ?_⟩ (fun i r hi hI => ?_) (fun r hI => ?_) (by omega)
    · show nI m - 1 = nI (m - 0) + (-1)
      rw [Nat.sub_zero]
      exact Int32.sub_eq_add_neg ..
    · show zI s1 17 k = _
      have := l3 (k - 300 * m) (by omega)
      rw [show 300 * m + (k - 300 * m) = k by omega] at this
      rw [this]
      unfold lay
      rw [show m - k / 300 = 0 by omega]
      rfl
    · obtain ⟨x, r⟩ := r
      obtain ⟨g1, g2, g3⟩ := hI
      obtain ⟨j, hj⟩ : ∃ j, m - i = j + 1 := ⟨m - i - 1, by omega⟩
      rw [hj] at g1 g3
      have g1 : x = nI (j + 1) + (-1) := g1
      rw [pk_m1] at g1
      subst g1
      obtain ⟨q, f1, f2, f3, f4⟩ := m_lay300 (τ := τ) (s := r) (m := m) (j := j) hc hm (by omega) ⟨g2, g3, fun k h1 h2 => by omega⟩
      refine ⟨(nI j + (-1), q.2), ?_, ?_, ?_, fun k h1 h2 => ?_⟩
      · show bX11_layLeast_34 (nI c) (nI j) r = _
        unfold bX11_layLeast_34
        rw [if_neg (nI_pos (by omega)), f1, Option.bind_some]
      · show nI j + (-1) = nI (m - (i + 1)) + (-1)
        rw [show m - (i + 1) = j by omega]
      · show ∀ c' k, ¬ c' = 17 → zI q.2 c' k = zI τ c' k
        exact f2
      · show zI q.2 17 k = _
        by_cases e : 300 * (j + 1) ≤ k
        · exact f3 k e h2
        · exact f4 k (by omega) (by omega)
    · obtain ⟨x, r⟩ := r
      obtain ⟨g1, g2, g3⟩ := hI
      have g1 : x = nI (m - m) + (-1) := g1
      rw [Nat.sub_self] at g1
      subst g1
      refine ⟨(nI 0 + (-1), r), ?_, g2, fun k hk => g3 k (by omega) hk⟩
      show bX11_layLeast_34 (nI c) (nI 0 + (-1)) r = _
      unfold bX11_layLeast_34
      rw [if_pos (by decide)]
  unfold fX11_layLeast
  rw [l1, Option.bind_some, o1, Option.bind_some]
  refine ⟨_, rfl, o2, fun j a b l hj ha hb hl => ?_⟩
  have o3 : ∀ k, k < 300 * (m + 1) → zI s2 17 k = lay m c k := o3
  show zI s2 17 _ = _
  rw [o3 _ (by unfold spt; omega), lay_spt ha hb hl]
theorem m_walk {τ : zSt} {m c a b i : Nat} (hc : c ≤ 9) (hm : m ≤ 40) (hi : i < m) (ha : a ≤ 9) (hb : b ≤ 9) (h : ∀ j a b l, j ≤ m → a ≤ 9 → b ≤ 9 → l ≤ 2 → zI τ 17 (spt j a b l) = nI (lct (m - j) a b l c)) : zLp (fun r : Int32 × Int32 × Int32 × Int32 => bX11_shifts_112 τ (nI c) (nI i) r.1 r.2.1 r.2.2.1 r.2.2.2) zFU (nI a, nI b, (2 : Int32), (0 : Int32)) = some (nI (lwk m a b 2 c (i + 1)).1, nI (lwk m a b 2 c (i + 1)).2.1, nI (lwk m a b 2 c (i + 1)).2.2, nI (i + 1)) := by
  refine zl_run (fun q => (nI (lwk m a b 2 c q).1, nI (lwk m a b 2 c q).2.1, nI (lwk m a b 2 c q).2.2, nI q)) (i + 1) rfl (fun q hq => ?_) ?_ (by omega)
  · show bX11_shifts_112 τ (nI c) (nI i) (nI (lwk m a b 2 c q).1) (nI (lwk m a b 2 c q).2.1) (nI (lwk m a b 2 c q).2.2) (nI q) = _
    obtain ⟨w1, w2⟩ := lwk_le (m := m) (l := 2) (c := c) (i := q) ha hb
    have w3 : (lwk m a b 2 c q).2.2 ≤ 2 := by
      cases q with
      | zero => exact Nat.le_refl 2
      | succ q => have := lwk_l (m := m) (a := a) (b := b) (l := 2) (c := c) (i := q); omega
    have st : lwk m a b 2 c (q + 1) = if (lwk m a b 2 c q).1 + lcs (lwk m a b 2 c q).2.2 0 c + lct (m - q - 1) (sMo (lwk m a b 2 c q).1) ((lwk m a b 2 c q).2.1 - 1) 0 c ≤ (lwk m a b 2 c q).2.1 + lcs (lwk m a b 2 c q).2.2 1 c + lct (m - q - 1) ((lwk m a b 2 c q).1 - 1) (sMo (lwk m a b 2 c q).2.1) 1 c then (sMo (lwk m a b 2 c q).1, (lwk m a b 2 c q).2.1 - 1, 0) else ((lwk m a b 2 c q).1 - 1, sMo (lwk m a b 2 c q).2.1, 1) := rfl
    rw [st]
    generalize lwk m a b 2 c q = s at w1 w2 w3 ⊢
    obtain ⟨k, hk⟩ : ∃ k, m - q = k + 1 := ⟨m - q - 1, by omega⟩
    have hk1 : m - q - 1 = k := by omega
    have s1 := sMo_le (a := s.1)
    have s2 := sMo_le (a := s.2.1)
    have b0 := lct_le k (sMo s.1) (s.2.1 - 1) 0 c s1 (by omega) hc
    have b1 := lct_le k (s.1 - 1) (sMo s.2.1) 1 c (by omega) s2 hc
    have c0 := lcs_le (l := s.2.2) (w := 0) hc
    have c1 := lcs_le (l := s.2.2) (w := 1) hc
    unfold bX11_shifts_112
    rw [i_nlt (by omega) (by omega), m_cost0 (by omega) w1 w2 w3, Option.bind_some, m_spot, zrI_n (n := 12300) (by decide) (by unfold spt; omega), Option.bind_some, h _ _ _ _ (by omega) s1 (by omega) (by decide), h q s.1 s.2.1 s.2.2 (by omega) w1 w2 w3, nI_add, hk1, hk, show m - (q + 1) = k by omega, m_more (by omega), m_more (by omega), m_less (by omega), m_less (by omega), nI_1, show lct (k + 1) s.1 s.2.1 s.2.2 c = min (s.1 + lcs s.2.2 0 c + lct k (sMo s.1) (s.2.1 - 1) 0 c) (s.2.1 + lcs s.2.2 1 c + lct k (s.1 - 1) (sMo s.2.1) 1 c) from rfl]
    by_cases e : s.1 + lcs s.2.2 0 c + lct k (sMo s.1) (s.2.1 - 1) 0 c ≤ s.2.1 + lcs s.2.2 1 c + lct k (s.1 - 1) (sMo s.2.1) 1 c
    · rw [if_pos e, i_eq (Nat.min_eq_left e).symm]
      rfl
    · rw [if_neg e, i_ne (by omega) (by omega) (by omega)]
      rfl
  · show bX11_shifts_112 τ (nI c) (nI i) _ _ _ (nI (i + 1)) = _
    unfold bX11_shifts_112
    rw [i_lt (by omega) (by omega)]
end SHIFTM
