section BOOTH
theorem q_booth {σ τ : zSt} (h : Inv σ τ) (x y z u w : Int32) : ∃ r σ' τ', fX10_booth σ x y z u w = some (r, σ') ∧ fX11_booth τ x y z u w = some (r, τ') ∧ Inv σ' τ' := by
  have h0 := h.flt (x := 0) (y := 0) rfl
  have c0 := comeTo0 σ
  unfold fX10_booth fX11_booth
  rw [z_sheetM, z_sortM]
  rcases zIn_c x (m := 4) (by decide) with e | ⟨k, hk, rfl, e⟩
  · have e2 : fX10_refuseRow σ x y = (-1, zwI σ 0 10 0) := by unfold fX10_refuseRow; rw [z_has6, e, i00]
    rw [e2, e, i00, if_neg (show ¬ ((-1 : Int32) = 0) by decide)]
    exact ⟨_, _, _, rfl, rfl, h0⟩
  rcases zIn_c y (m := 3) (by decide) with e3 | ⟨s, hs, rfl, e3⟩
  · have e2 : fX10_refuseRow σ (nI k) y = (-2, zwI σ 0 10 0) := by unfold fX10_refuseRow; rw [z_has6, z_sort, e, e3, i00, i10]
    rw [e2, e, e3, i10, i00, if_neg (show ¬ ((-2 : Int32) = 0) by decide)]
    exact ⟨_, _, _, rfl, rfl, h0⟩
  rw [refuse0 σ hk hs, e, e3, i10, i10]
  generalize zwI σ 0 10 0 = σ0 at h0 c0 ⊢
  generalize zwI τ 0 0 0 = τ0 at h0 ⊢
  rw [if_pos (show ((0 : Int32), σ0).1 = 0 from rfl)]
  show ∃ r σ' τ', (if w < (0 : Int32) then some ((-2 : Int32), σ0) else if w ≤ (2 : Int32) then (fX6_faultOfCells σ0 (nI k) (nI s) z u).bind _ else some ((-2 : Int32), σ0)) = some (r, σ') ∧ _
  have h9 := h0
  obtain ⟨n, T, c, kd, td, v, pl, sp, t, tb, tw, th, ts, tm, hA, hT, hC, hW, hU, hR, hX⟩ := h0
  rw [show (2 : Int32) = nI 2 from rfl, z_wit w (m := 2) (by decide)]
  rcases pk_ix w (n := 3) (by decide) with w0 | w0 | ⟨j, hj, rfl⟩
  · rw [if_pos w0, show zIn w (2 + 1) = 0 by unfold zIn; rw [if_pos w0], i00]
    exact ⟨_, _, _, rfl, rfl, h9⟩
  · have w1 : ¬ w < 0 := fun q => absurd (Int32.lt_of_le_of_lt w0 q) (by decide)
    have w2 : ¬ w ≤ nI 2 := fun q => absurd (Int32.le_trans w0 q) (by decide)
    rw [if_neg w1, if_neg w2, show zIn w (2 + 1) = 0 by unfold zIn; rw [if_neg w1, if_pos w0], i00]
    exact ⟨_, _, _, rfl, rfl, h9⟩
  rw [if_neg (nI_pos (by omega)), i_le (show j ≤ 2 by omega) (by decide), show zIn (nI j) (2 + 1) = 1 by unfold zIn; rw [if_neg (nI_pos (by omega)), i_nle hj (by decide)], i10]
  obtain ⟨r, hr, f1, f2, f3⟩ := q_against hA hk (nI s) z u
  rw [f1, f2, Option.bind_some, Option.bind_some]
  by_cases r0 : r = 0
  case neg =>
    obtain ⟨g1, g2⟩ := comeToN σ0 (r := r) (by omega) hr
    rw [if_neg (show ¬ nI r = 0 from nI_ne0 (by omega) (by omega)), g1, if_neg g2]
    exact ⟨_, _, _, rfl, rfl, h9.flt rfl⟩
  subst r0
  obtain ⟨i, m, L, rfl, rfl, hL1, hL2, -, -⟩ := f3 rfl
  rw [show nI 0 = (0 : Int32) from rfl, c0, if_pos (show (0 : Int32) = 0 from rfl), if_pos (show ((0 : Int32), σ0).1 = 0 from rfl)]
  unfold fX11_within
  by_cases m1 : nI m < (1 : Int32)
  · rw [if_pos m1, if_pos m1, i00]
    exact ⟨_, _, _, rfl, rfl, h9⟩
  rw [if_neg m1, if_neg m1]
  by_cases m9 : (9 : Int32) < nI m
  · rw [if_pos m9, if_pos m9, i00]
    exact ⟨_, _, _, rfl, rfl, h9⟩
  rw [if_neg m9, if_neg m9, i10]
  have hm1 : 1 ≤ m := by
    rcases Nat.lt_or_ge m 1 with w | w
    · exact absurd (nI_lt (b := 1) w (by decide)) m1
    · exact w
  have hm9 : m ≤ 9 := by
    rcases Nat.lt_or_ge 9 m with q | q
    · exact absurd (nI_lt (a := 9) q (by omega)) m9
    · exact q
  have hcell := (hA k hk).2
  rw [zrA_n (n := 4) (by decide) hk, Option.bind_some, show 11 + 1 + k = 12 + k by omega, show (120 : Int32) = nI 120 from rfl, pk_mul, nI_add]
  show ∃ r σ' τ', ((fX0_isEachOnce σ0 (12 + k) (nI i) (nI m)).bind _) = some (r, σ') ∧ _
  rcases q_each (a := i) (m := m) hk (by omega) hm1 hm9 hcell with ⟨all, g1, g2⟩ | ⟨g1, g2⟩
  case inr =>
    rw [g1, g2, Option.bind_some, i00, Option.bind_some, i00]
    exact ⟨_, _, _, rfl, rfl, h9⟩
  rw [g1, g2, Option.bind_some, i10, Option.bind_some, Option.bind_some, i10]
  show ∃ r σ' τ', ((fX0_work σ0 (12 + k) (nI i) (nI m)).bind _) = some (r, σ') ∧ _
  obtain ⟨f, hf⟩ : ∃ f : Nat → Nat, ∀ j, j < m → f j < m ∧ zI σ0 (12 + k) (i + j) = nI (f j) := ⟨fun j => (zI σ0 (12 + k) (i + j)).toNatClampNeg, fun j hj => by
    obtain ⟨q, hq, e⟩ := all j hj
    show (zI σ0 (12 + k) (i + j)).toNatClampNeg < m ∧ zI σ0 (12 + k) (i + j) = nI (zI σ0 (12 + k) (i + j)).toNatClampNeg
    rw [e, nI_clamp (by omega)]
    exact ⟨hq, rfl⟩⟩
  obtain ⟨σ', p1, p2, p3, p4, p5, p6⟩ := c_work hm1 hm9 hk (by omega) hf
  obtain ⟨⟨q1, q2, q3, τ'⟩, l1, l2, l3, l4, l5⟩ := m_booth (τ := τ0) (f := f) (n := m) (p := 120 * k + i) hm9 (by omega) (fun j hj => ⟨(hf j hj).1, by rw [Nat.add_assoc, ← hcell _ (by omega)]; exact (hf j hj).2⟩) (nI j)
  have l2 : q1 = btq f m := l2
  have l3 : q2 = nI (bbh f m) := l3
  have l4 : ∀ k, k < m → zI τ' 18 k = nI (btk f k) := l4
  have l5 : ∀ c k, ¬ c = 18 → zI τ' c k = zI τ0 c k := l5
  have l2 : q1 = nI (btk f (m - 1)) := by
    rw [l2]
    obtain ⟨m', rfl⟩ : ∃ m', m = m' + 1 := ⟨m - 1, by omega⟩
    rfl
  subst l2 l3
  have bl := btk_le (f := f) (n := m) (m - 1) (fun j hj => (hf j (by omega)).1)
  have hh : fX11_held τ' (nI m) (nI (btk f (m - 1))) = some (nI (bhm f m (btk f (m - 1) + 1))) := m_held hm9 (by omega) (fun k hk => ⟨by have := btk_mono f (j := k) (k := m - 1) (by omega); omega, l4 k hk⟩)
  have hI : Inv σ' τ' := h9.mv (fun c' k hc' => p5 c' k (by unfold zcoC at hc'; omega)) (fun c' k hc' => l5 c' k (by unfold zcoM at hc'; omega)) (by rw [p5 0 10 (by omega), l5 0 0 (by omega)]; exact hX.1) (hR.mv (by unfold zR; rw [p6]) (by unfold zR; rw [p6]) (by unfold zR; rw [p6]) (by unfold zR; rw [p6]) (p5 9 2 (by omega)) (by unfold zJ; rw [p6]))
  rw [p1, l1, Option.bind_some, Option.bind_some]
  rcases (show j = 0 ∨ j = 1 ∨ j = 2 by omega) with rfl | rfl | rfl
  · rw [show nI 0 = (0 : Int32) from rfl, i00, i00, p2]
    exact ⟨_, _, _, rfl, rfl, hI⟩
  · rw [show nI 1 = (1 : Int32) from rfl, i10, i10, if_pos (show (1 : Int32) = 1 from rfl), if_pos (show (1 : Int32) = 1 from rfl)]
    show ∃ r σ'_1 τ'_1, _ ∧ ((fX11_held τ' (nI m) (nI (btk f (m - 1)))).bind _) = some (r, τ'_1) ∧ _
    rw [hh, p3, Option.bind_some]
    exact ⟨_, _, _, rfl, rfl, hI⟩
  · rw [if_neg (show ¬ nI 2 = (0 : Int32) by decide), if_neg (show ¬ nI 2 = (0 : Int32) by decide), if_neg (show ¬ nI 2 = (1 : Int32) by decide), if_neg (show ¬ nI 2 = (1 : Int32) by decide), p4]
    exact ⟨_, _, _, rfl, rfl, hI⟩
end BOOTH
