section HANDS3
/-- the ways, the chain's values after j hands -/
def hwy (w : Nat) : Nat → Nat
  | 0 => w
  | j + 1 => 1 - hwy w j
theorem hwy_lt {w : Nat} (h : w < 2) (j : Nat) : hwy w j < 2 := by
  cases j with
  | zero => exact h
  | succ j => show 1 - hwy w j < 2; omega
def hds (n : Nat) (T : Nat → Nat → Nat → Nat) (kd td xs : Nat → Nat) (w a : Nat) : Nat → Nat → Int64
  | 0 => fun k => if k = a then 1 else 0
  | j + 1 => fun b => chf (fun a b => crr n (kd (xs j)) (td (xs j)) (T (hwy w j) a) b) (hds n T kd td xs w a j) b n
theorem ow_n {w : Nat} (hw : w < 2) : fX10_otherWay (nI w) = nI (1 - w) := by
  rcases (show w = 0 ∨ w = 1 by omega) with rfl | rfl <;> rfl
theorem mw_n {w : Nat} (hw : w < 2) : (1 : Int32) - nI w = nI (1 - w) := by
  rcases (show w = 0 ∨ w = 1 by omega) with rfl | rfl <;> rfl
theorem w144 (j : Nat) : lN (144 ^ j) * 144 = lN (144 ^ (j + 1)) := by
  rw [show (144 : Int64) = lN 144 from rfl, lN_mul, Nat.pow_succ]
theorem w144_0 : ∀ e, e < 9 → ¬ lN (144 ^ e) = 0 := by decide +kernel
variable {σ τ : zSt} {n : Nat} {T : Nat → Nat → Nat → Nat} {c : Nat} {kd td : Nat → Nat}
/-- all of them are interpreters, or the first is found that is none -/
theorem q_hasAll (hC : pC σ τ c kd td) {k a m : Nat} (hk : k < 4) (ham : a + m ≤ 120) (hcell : ∀ i, i < 120 → zI σ (12 + k) i = zI τ 3 (120 * k + i)) (x y z u : Int32) : ((∀ i, i < m → ∃ x, x < c ∧ zI σ (12 + k) (a + i) = nI x) ∧ fX2_hasAll σ (12 + k) (nI a) (nI m) = some 1 ∧ ∃ b, zLp (fun s : Int32 => bX11_hands_102 τ x y z (nI m) u (nI (120 * k + a)) s) zFU (0 : Int32) = some (Sum.inl b)) ∨ (fX2_hasAll σ (12 + k) (nI a) (nI m) = some 0 ∧ zLp (fun s : Int32 => bX11_hands_102 τ x y z (nI m) u (nI (120 * k + a)) s) zFU (0 : Int32) = some (Sum.inr ((-9223372036854775808 : Int64), τ))) := by
  have hc := hC.1
  have r1 : ∀ j, j < m → zrI 0 σ (12 + k) (nI (a + j)) = some (zI σ (12 + k) (a + j)) := fun j hj => zrI_n (zkRow k hk) (by omega)
  have r2 : ∀ j, j < m → zrI 1 τ 3 (nI (120 * k + a) + nI j) = some (zI σ (12 + k) (a + j)) := fun j hj => by
    rw [nI_add, zrI_n (n := 480) (by decide) (by omega), hcell _ (by omega), Nat.add_assoc]
  have okC : ∀ j, j < m → zIn (zI σ (12 + k) (a + j)) c = 1 → bX2_hasAll_3 σ (12 + k) (nI a) (nI m) (nI (a + j)) = some (Sum.inl (nI (a + (j + 1)))) := fun j hj e => by
    unfold bX2_hasAll_3
    rw [nI_add, i_nle (by omega) (by omega), r1 j hj, Option.bind_some, z_int hC, e, i10, nI_1]
    rfl
  have okM : ∀ j, j < m → zIn (zI σ (12 + k) (a + j)) c = 1 → bX11_hands_102 τ x y z (nI m) u (nI (120 * k + a)) (nI j) = some (Sum.inl (nI (j + 1))) := fun j hj e => by
    unfold bX11_hands_102
    rw [i_nle hj (by omega), r2 j hj, Option.bind_some, z_intM hC, e, i10, nI_1]
  by_cases all : ∀ i, i < m → zIn (zI σ (12 + k) (a + i)) c = 1
  · refine Or.inl ⟨fun i hi => ?_, ?_, nI m, ?_⟩
    · rcases zIn_c (zI σ (12 + k) (a + i)) (m := c) (by omega) with e | ⟨q, hq, e, -⟩
      · exact absurd ((all i hi).symm.trans e) (by decide)
      · exact ⟨q, hq, e⟩
    · unfold fX2_hasAll
      rw [zl_run (body := fun s : Int32 => bX2_hasAll_3 σ (12 + k) (nI a) (nI m) s) (a := nI a) (fun j => nI (a + j)) m (b := Sum.inl (nI (a + m))) rfl (fun j hj => okC j hj (all j hj)) ?_ (by omega), Option.bind_some]
      · rfl
      · show bX2_hasAll_3 σ (12 + k) (nI a) (nI m) (nI (a + m)) = _
        unfold bX2_hasAll_3
        rw [nI_add, i_le (Nat.le_refl _) (by omega)]
    · refine zl_run (fun j => nI j) m rfl (fun j hj => okM j hj (all j hj)) ?_ (by omega)
      show bX11_hands_102 τ x y z (nI m) u (nI (120 * k + a)) (nI m) = _
      unfold bX11_hands_102
      rw [i_le (Nat.le_refl _) (by omega)]
  · have ex : ∃ i, i < m ∧ ¬ zIn (zI σ (12 + k) (a + i)) c = 1 := Classical.byContradiction (fun q => all (fun i hi => Classical.byContradiction (fun q2 => q ⟨i, hi, q2⟩)))
    obtain ⟨f, ⟨hf, hf1⟩, hf2⟩ := pk_least (fun i => i < m ∧ ¬ zIn (zI σ (12 + k) (a + i)) c = 1) ex
    have bef : ∀ j, j < f → zIn (zI σ (12 + k) (a + j)) c = 1 := fun j hj => Classical.byContradiction (fun q => hf2 j hj ⟨by omega, q⟩)
    have z0 : zIn (zI σ (12 + k) (a + f)) c = 0 := by
      rcases zIn_c (zI σ (12 + k) (a + f)) (m := c) (by omega) with e | ⟨q, hq, e, e2⟩
      · exact e
      · exact absurd e2 hf1
    refine Or.inr ⟨?_, ?_⟩
    · unfold fX2_hasAll
      rw [zl_run (body := fun s : Int32 => bX2_hasAll_3 σ (12 + k) (nI a) (nI m) s) (a := nI a) (fun j => nI (a + j)) f (b := Sum.inr 0) rfl (fun j hj => okC j (by omega) (bef j hj)) ?_ (by omega), Option.bind_some]
      · rfl
      · show bX2_hasAll_3 σ (12 + k) (nI a) (nI m) (nI (a + f)) = _
        unfold bX2_hasAll_3
        rw [nI_add, i_nle (by omega) (by omega), r1 f hf, Option.bind_some, z_int hC, z0, i00]
    · refine zl_run (fun j => nI j) f rfl (fun j hj => okM j (by omega) (bef j hj)) ?_ (by omega)
      show bX11_hands_102 τ x y z (nI m) u (nI (120 * k + a)) (nI f) = _
      unfold bX11_hands_102
      rw [i_nle hf (by omega), r2 f hf, Option.bind_some, z_intM hC, z0, i00]
theorem c_hands (hT : pT σ τ n T) (hC : pC σ τ c kd td) {k a m w b : Nat} {xs : Nat → Nat} (hk : k < 4) (ham : a + m ≤ 120) (hm : m ≤ 8) (hw : w < 2) (hx : ∀ i, i < m → xs i < c ∧ zI σ (12 + k) (a + i) = nI (xs i)) {ρ : zSt} (hD : pCh ρ n (hds n T kd td xs w b 0) 1) (hF : pFr ρ σ) (x y : Int32) : ∃ q, zLp (fun s : Int32 × Int32 × zSt => bX10_hands_142 x (nI k) (nI a) (nI m) y s.1 s.2.1 s.2.2) zFU (nI w, nI a, ρ) = some q ∧ (pCh q.2.2 n (hds n T kd td xs w b m) (lN (144 ^ m)) ∧ pFr q.2.2 σ) := by
  have h6 := hT.2.1
  have hc := hC.1
  refine zl_inv (body := fun s : Int32 × Int32 × zSt => bX10_hands_142 x (nI k) (nI a) (nI m) y s.1 s.2.1 s.2.2) (fun j s => s.1 = nI (hwy w j) ∧ s.2.1 = nI (a + j) ∧ pCh s.2.2 n (hds n T kd td xs w b j) (lN (144 ^ j)) ∧ pFr s.2.2 σ) m _ ⟨rfl, rfl, hD, hF⟩ (fun j s hj hI => ?_) (fun s hI => ?_) (by omega)
  · obtain ⟨p, q, s⟩ := s
    obtain ⟨g1, g2, g3, g4⟩ := hI
    have g1 : p = nI (hwy w j) := g1
    have g2 : q = nI (a + j) := g2
    subst g1
    subst g2
    have g3 : pCh s n (hds n T kd td xs w b j) (lN (144 ^ j)) := g3
    have g4 : pFr s σ := g4
    obtain ⟨x1, x2⟩ := hx j hj
    have hCs := g4.toC hC
    obtain ⟨k1, k2, k3, -, k5, -⟩ := hCs.2.2.2 (xs j) x1
    obtain ⟨s', c1, c2, c3⟩ := c_hand (g4.toT hT) g3 (hwy_lt hw j) k1 k2
    refine ⟨(nI (1 - hwy w j), nI (a + j) + 1, s'), ?_, rfl, nI_1 _, ?_, c3.trans g4⟩
    · show bX10_hands_142 x (nI k) (nI a) (nI m) y (nI (hwy w j)) (nI (a + j)) s = _
      unfold bX10_hands_142
      rw [nI_add, i_nle (by omega) (by omega), zrA_n (n := 4) (by decide) hk, Option.bind_some, show 11 + 1 + k = 12 + k by omega, zrI_n (zkRow k hk) (by omega), Option.bind_some, g4.1 _ _ (by omega), x2, zrI_n (n := 4) (by decide) (by omega), Option.bind_some, zrI_n (n := 4) (by decide) (by omega), Option.bind_some, k3, k5, c1, Option.bind_some, ow_n (hwy_lt hw j)]
    · show pCh s' n (hds n T kd td xs w b (j + 1)) (lN (144 ^ (j + 1)))
      rw [← w144]
      exact c2
  · obtain ⟨p, q, s⟩ := s
    obtain ⟨g1, g2, g3, g4⟩ := hI
    have g2 : q = nI (a + m) := g2
    subst g2
    refine ⟨(p, nI (a + m), s), ?_, g3, g4⟩
    show bX10_hands_142 x (nI k) (nI a) (nI m) y p (nI (a + m)) s = _
    unfold bX10_hands_142
    rw [nI_add, i_le (Nat.le_refl _) (by omega)]
theorem m_hands (hT : pT σ τ n T) (hC : pC σ τ c kd td) {k a m w b : Nat} {xs : Nat → Nat} (hk : k < 4) (ham : a + m ≤ 120) (hm : m ≤ 8) (hw : w < 2) (hx : ∀ i, i < m → xs i < c ∧ zI τ 3 (120 * k + a + i) = nI (xs i)) {ρ : zSt} (hD : ∀ i, i < n → zJ ρ 8 i = hds n T kd td xs w b 0 i) (hF : ρ.1 = τ.1) (x y : Int32) : ∃ q, zLp (fun s : Int64 × Int32 × Int32 × zSt => bX11_hands_193 x (nI m) y (nI (120 * k + a)) s.1 s.2.1 s.2.2.1 s.2.2.2) zFU ((1 : Int64), nI w, (0 : Int32), ρ) = some q ∧ (q.1 = lN (144 ^ m) ∧ (∀ i, i < n → zJ q.2.2.2 8 i = hds n T kd td xs w b m i) ∧ q.2.2.2.1 = τ.1) := by
  have h6 := hT.2.1
  have hc := hC.1
  refine zl_inv (body := fun s : Int64 × Int32 × Int32 × zSt => bX11_hands_193 x (nI m) y (nI (120 * k + a)) s.1 s.2.1 s.2.2.1 s.2.2.2) (fun j s => s.1 = lN (144 ^ j) ∧ s.2.1 = nI (hwy w j) ∧ s.2.2.1 = nI j ∧ (∀ i, i < n → zJ s.2.2.2 8 i = hds n T kd td xs w b j i) ∧ s.2.2.2.1 = τ.1) m _ ⟨rfl, rfl, rfl, hD, hF⟩ (fun j s hj hI => ?_) (fun s hI => ?_) (by omega)
  · obtain ⟨o, p, q, s⟩ := s
    obtain ⟨g0, g1, g2, g3, g4⟩ := hI
    have g0 : o = lN (144 ^ j) := g0
    have g1 : p = nI (hwy w j) := g1
    have g2 : q = nI j := g2
    subst g0
    subst g1
    subst g2
    have g3 : ∀ i, i < n → zJ s 8 i = hds n T kd td xs w b j i := g3
    have g4 : s.1 = τ.1 := g4
    have zs : ∀ c k, zI s c k = zI τ c k := fun c k => by unfold zI; exact congrFun (congrFun g4 c) k
    obtain ⟨x1, x2⟩ := hx j hj
    obtain ⟨s', c1, c2, c3⟩ := m_carryOn (σ := σ) (τ := s) (hT.mv rfl (fun _ _ _ _ => rfl) (zs _ _) (fun _ => zs _ _)) (hC.mv rfl (fun _ _ _ _ => rfl) (zs _ _) (fun _ _ _ _ => zs _ _)) x1 (hwy_lt hw j) g3
    refine ⟨(lN (144 ^ j) * 144, nI (1 - hwy w j), nI j + 1, s'), ?_, w144 j, rfl, nI_1 _, c2, c3.trans g4⟩
    show bX11_hands_193 x (nI m) y (nI (120 * k + a)) (lN (144 ^ j)) (nI (hwy w j)) (nI j) s = _
    unfold bX11_hands_193
    rw [i_nle hj (by omega), nI_add, zrI_n (n := 480) (by decide) (by omega), Option.bind_some, zs, x2, c1, Option.bind_some, mw_n (hwy_lt hw j)]
  · obtain ⟨o, p, q, s⟩ := s
    obtain ⟨g0, g1, g2, g3, g4⟩ := hI
    have g2 : q = nI m := g2
    subst g2
    refine ⟨(o, p, nI m, s), ?_, g0, g3, g4⟩
    show bX11_hands_193 x (nI m) y (nI (120 * k + a)) o p (nI m) s = _
    unfold bX11_hands_193
    rw [i_le (Nat.le_refl _) (by omega)]
end HANDS3
theorem q_hands {σ τ : zSt} (h : Inv σ τ) (x1 x2 x3 x4 x5 x6 x7 x8 : Int32) : ∃ r σ' τ', fX10_hands σ x1 x2 x3 x4 x5 x6 x7 x8 = some (r, σ') ∧ fX11_hands τ x1 x2 x3 x4 x5 x6 x7 x8 = some (r, τ') ∧ Inv σ' τ' := by
  have h0 := h.flt (x := 0) (y := 0) rfl
  unfold fX10_hands fX11_hands
  have c0 := comeTo0 σ
  generalize zwI σ 0 10 0 = σ0 at h0 c0 ⊢
  generalize zwI τ 0 0 0 = τ0 at h0 ⊢
  have h9 := h0
  obtain ⟨n, T, c, kd, td, v, pl, sp, t, tb, tw, th, ts, tm, hA, hT, hC, hW, hU, hR, hX⟩ := h0
  have h6 := hT.2.1
  have hc := hC.1
  rw [z_word hT, z_wordM hT, z_end hT, z_has6, z_sheetM, z_way, z_wayM, z_sort, z_sortM, z_which, z_whichM]
  rcases zIn_c x2 (m := n) (by omega) with e | ⟨a, ha, rfl, e⟩
  · rw [e, i00, i00]
    exact ⟨_, _, _, rfl, rfl, h9⟩
  rw [e, i10, i10, z_endM hT (by omega)]
  rcases zIn_c x3 (m := n + 1) (by omega) with e | ⟨b, hb, rfl, e⟩
  · rw [e, i00, i00]
    exact ⟨_, _, _, rfl, rfl, h9⟩
  rw [e, i10, i10]
  rcases zIn_c x4 (m := 4) (by decide) with e | ⟨k, hk, rfl, e⟩
  · rw [e, i00, i00]
    exact ⟨_, _, _, rfl, rfl, h9⟩
  rw [e, i10, i10]
  rcases zIn_c x1 (m := 2) (by decide) with e | ⟨w, hw, rfl, e⟩
  · rw [e, i00, i00]
    exact ⟨_, _, _, rfl, rfl, h9⟩
  rw [e, i10, i10]
  rcases zIn_c x5 (m := 3) (by decide) with e | ⟨srt, hsrt, rfl, e⟩
  · rw [e, i00, i00]
    exact ⟨_, _, _, rfl, rfl, h9⟩
  rw [e, i10, i10]
  obtain ⟨r, hr, f1, f2, f3⟩ := q_against hA hk (nI srt) x6 x7
  rw [f1, f2, Option.bind_some, Option.bind_some]
  by_cases r0 : r = 0
  case neg =>
    obtain ⟨g1, g2⟩ := comeToN σ0 (r := r) (by omega) hr
    rw [if_neg (show ¬ nI r = 0 from nI_ne0 (by omega) (by omega)), g1, if_neg g2]
    exact ⟨_, _, _, rfl, rfl, h9.flt rfl⟩
  subst r0
  obtain ⟨i, m, L, rfl, rfl, hL1, hL2, -, -⟩ := f3 rfl
  rw [show nI 0 = (0 : Int32) from rfl, c0, if_pos (show (0 : Int32) = 0 from rfl), if_pos (show ((0 : Int32), σ0).1 = 0 from rfl)]
  unfold fX11_within
  by_cases m1 : nI m < (1 : Int32)
  · rw [if_pos m1, if_pos m1, i00]
    exact ⟨_, _, _, rfl, rfl, h9⟩
  rw [if_neg m1, if_neg m1]
  by_cases m8 : (8 : Int32) < nI m
  · rw [if_pos m8, if_pos m8, i00]
    exact ⟨_, _, _, rfl, rfl, h9⟩
  rw [if_neg m8, if_neg m8, i10]
  have hm8 : m ≤ 8 := by
    rcases Nat.lt_or_ge 8 m with q | q
    · exact absurd (nI_lt (a := 8) q (by omega)) m8
    · exact q
  rw [zrA_n (n := 4) (by decide) hk, Option.bind_some, show 11 + 1 + k = 12 + k by omega, show (120 : Int32) = nI 120 from rfl, pk_mul, nI_add]
  have hcell := (hA k hk).2
  rcases q_hasAll hC (a := i) (m := m) hk (by omega) hcell (nI w) (nI a) (nI b) x8 with ⟨all, g1, bb, g2⟩ | ⟨g1, g2⟩
  case inr =>
    show ∃ r σ' τ', ((fX2_hasAll σ0 (12 + k) (nI i) (nI m)).bind _) = some (r, σ') ∧ _
    rw [g1, g2, Option.bind_some, i00, Option.bind_some, zel_r]
    exact ⟨_, _, _, rfl, rfl, h9⟩
  show ∃ r σ' τ', ((fX2_hasAll σ0 (12 + k) (nI i) (nI m)).bind _) = some (r, σ') ∧ _
  rw [g1, g2, Option.bind_some, i10, Option.bind_some, zel_l]
  rcases zIn_c x8 (m := 2) (by decide) with e | ⟨o, ho, rfl, e⟩
  · rw [e, i00, i00]
    exact ⟨_, _, _, rfl, rfl, h9⟩
  rw [e, i10, i10]
  have hx : ∀ j, j < m → (zI σ0 (12 + k) (i + j)).toNatClampNeg < c ∧ zI σ0 (12 + k) (i + j) = nI (zI σ0 (12 + k) (i + j)).toNatClampNeg := fun j hj => by
    obtain ⟨q, hq, e⟩ := all j hj
    rw [e, nI_clamp (by omega)]
    exact ⟨hq, rfl⟩
  have hxm : ∀ j, j < m → (zI σ0 (12 + k) (i + j)).toNatClampNeg < c ∧ zI τ0 3 (120 * k + i + j) = nI (zI σ0 (12 + k) (i + j)).toNatClampNeg := fun j hj => by
    refine ⟨(hx j hj).1, ?_⟩
    rw [← (hx j hj).2, hcell _ (by omega), Nat.add_assoc]
  obtain ⟨s1, p1, p2, p3⟩ := c_begin hR h6 ha
  obtain ⟨q1, t1, t2, t3⟩ := c_hands (xs := fun j => (zI σ0 (12 + k) (i + j)).toNatClampNeg) (b := a) hT hC hk (by omega) hm8 hw hx p2 p3 (nI b) (nI o)
  have ml : ∃ y : Int32 × zSt, zLp (fun s : Int32 × zSt => bX11_hands_151 (nI w) (nI a) (nI b) (nI m) (nI o) (nI (120 * k + i)) s.1 s.2) zFU ((0 : Int32), τ0) = some y ∧ ((∀ j, j < n → zJ y.2 8 j = if j = a then 1 else 0) ∧ y.2.1 = τ0.1) := by
    refine zl_inv (body := fun s : Int32 × zSt => bX11_hands_151 (nI w) (nI a) (nI b) (nI m) (nI o) (nI (120 * k + i)) s.1 s.2) (fun j s => s.1 = nI j ∧ (∀ i, i < j → zJ s.2 8 i = if i = a then 1 else 0) ∧ s.2.1 = τ0.1) n _ ⟨rfl, fun k hk => absurd hk (Nat.not_lt_zero _), rfl⟩ (fun j s hj hI => ?_) (fun s hI => ?_) (by omega)
    · obtain ⟨p, s⟩ := s
      obtain ⟨u1, u2, u3⟩ := hI
      have u1 : p = nI j := u1
      subst u1
      have u2 : ∀ i, i < j → zJ s 8 i = if i = a then 1 else 0 := u2
      have z5 : zI s 0 5 = nI n := (show zI s 0 5 = zI τ0 0 5 by unfold zI; exact congrFun (congrFun u3 0) 5).trans hT.2.2.2.1
      refine ⟨(nI j + 1, zwJ s 8 j (if j = a then 1 else 0)), ?_, nI_1 j, fun i hi => ?_, u3⟩
      · show bX11_hands_151 (nI w) (nI a) (nI b) (nI m) (nI o) (nI (120 * k + _)) (nI j) s = _
        unfold bX11_hands_151
        rw [z5, i_nle hj (by omega), zsJ_n (n := 6) (by decide) (by omega), zsJ_n (n := 6) (by decide) (by omega), Option.bind_some, Option.bind_some]
        by_cases g : j = a
        · rw [i_eq g, if_pos g]
        · rw [i_ne g (by omega) (by omega), if_neg g]
      · show zJ (zwJ s 8 j _) 8 i = _
        rw [zJ_wJ]
        by_cases g : i = j
        · rw [if_pos ⟨rfl, g⟩, g]
        · rw [if_neg (fun q => g q.2)]
          exact u2 i (by omega)
    · obtain ⟨p, s⟩ := s
      obtain ⟨u1, u2, u3⟩ := hI
      have u1 : p = nI n := u1
      subst u1
      have z5 : zI s 0 5 = nI n := (show zI s 0 5 = zI τ0 0 5 by unfold zI; exact congrFun (congrFun u3 0) 5).trans hT.2.2.2.1
      refine ⟨(nI n, s), ?_, u2, u3⟩
      show bX11_hands_151 (nI w) (nI a) (nI b) (nI m) (nI o) (nI (120 * k + i)) (nI n) s = _
      unfold bX11_hands_151
      rw [z5, i_le (Nat.le_refl _) (by omega)]
  obtain ⟨⟨y0, ρ⟩, l1, l2, l3⟩ := ml
  obtain ⟨⟨W, y1, y2, μ⟩, v1, v2, v3, v4⟩ := m_hands (xs := fun j => (zI σ0 (12 + k) (i + j)).toNatClampNeg) (b := a) hT hC hk (by omega) hm8 hw hxm (ρ := ρ) l2 l3 (nI b) (nI o)
  have v2 : W = lN (144 ^ m) := v2
  subst v2
  generalize hds n T kd td (fun j => (zI σ0 (12 + k) (i + j)).toNatClampNeg) w a m = D at t2 v3
  have v3 : ∀ j, j < n → zJ μ 8 j = D j := v3
  have v4 : μ.1 = τ0.1 := v4
  have z5 : zI μ 0 5 = nI n := (show zI μ 0 5 = zI τ0 0 5 by unfold zI; exact congrFun (congrFun v4 0) 5).trans hT.2.2.2.1
  have ls : zLp (fun s : Int64 × Int32 => bX11_hands_243 μ (nI b) (nI o) (lN (144 ^ m)) s.1 s.2) zFU (lN (144 ^ m), (0 : Int32)) = some (sbf (lN (144 ^ m)) D n, nI n) := by
    refine zl_run (fun j => (sbf (lN (144 ^ m)) D j, nI j)) n rfl (fun j hj => ?_) ?_ (by omega)
    · show bX11_hands_243 μ (nI b) (nI o) (lN (144 ^ m)) (sbf _ D j) (nI j) = _
      unfold bX11_hands_243
      rw [z5, i_nle hj (by omega), zrJ_n (n := 6) (by decide) (by omega), Option.bind_some, v3 j hj, nI_1]
      rfl
    · show bX11_hands_243 μ (nI b) (nI o) (lN (144 ^ m)) (sbf _ D n) (nI n) = _
      unfold bX11_hands_243
      rw [z5, i_le (Nat.le_refl _) (by omega)]
  have hI := h9.chain (τ' := μ) t3 t2 v4
  have hTq := t3.toT hT
  rw [p1, Option.bind_some, t1, Option.bind_some, hTq.2.2.1, c_timesAs t2 h6 (by omega), Option.bind_some]
  obtain ⟨P, Q, -, -, -, -, hwh⟩ := t2
  rw [hwh, l1, Option.bind_some, v1, Option.bind_some, ls, Option.bind_some]
  have d0 := w144_0 m (by omega)
  by_cases bn : b = n
  · rw [if_pos bn]
    obtain ⟨r, r1, r2⟩ := q_share (sbf (lN (144 ^ m)) D n) (lN (144 ^ m)) (nI o) d0
    rw [r1, Option.bind_some]
    refine ⟨_, _, _, rfl, ?_, hI⟩
    show (if nI b = zI μ 0 5 then _ else _) = _
    rw [z5, i_eq bn, r2, Option.bind_some]
  · rw [if_neg bn]
    obtain ⟨r, r1, r2⟩ := q_share (D b) (lN (144 ^ m)) (nI o) d0
    rw [r1, Option.bind_some]
    refine ⟨_, _, _, rfl, ?_, hI⟩
    show (if nI b = zI μ 0 5 then _ else _) = _
    rw [z5, i_ne bn (by omega) (by omega), zrJ_n (n := 6) (by decide) (by omega), Option.bind_some, v3 b (by omega), r2, Option.bind_some]
