/-! SHEETS -/
theorem zsub_toInt {L b : Nat} (hL : L < 2 ^ 31) (hb : b < 2 ^ 31) : (nI L - nI b).toInt = (L : Int) - b := by
  rw [Int32.toInt_sub, nI_toInt hL, nI_toInt hb]
  exact Int.bmod_eq_of_le (by omega) (by omega)
theorem zsub_lt {L b a : Nat} (hL : L < 2 ^ 31) (hb : b < 2 ^ 31) (ha : a < 2 ^ 31) : nI L - nI b < nI a ↔ L < a + b := by
  rw [Int32.lt_iff_toInt_lt, zsub_toInt hL hb, nI_toInt ha]
  omega
theorem zle_sub {L b a : Nat} (hL : L < 2 ^ 31) (hb : b < 2 ^ 31) (ha : a < 2 ^ 31) : nI b ≤ nI L - nI a ↔ a + b ≤ L := by
  rw [Int32.le_iff_toInt_le, zsub_toInt hL ha, nI_toInt hb]
  omega
theorem znn {x : Int32} : (0 : Int32) ≤ x ↔ ¬ x < 0 := Int32.not_lt.symm
theorem q_against {σ τ : zSt} (hA : pA σ τ) {k : Nat} (hk : k < 4) (y i n : Int32) : ∃ r, r ≤ 4 ∧ fX6_faultOfCells σ (nI k) y i n = some (nI r) ∧ fX11_against τ (nI k) y i n = some (nI r) ∧ (r = 0 → ∃ a b L, i = nI a ∧ n = nI b ∧ a + b ≤ L ∧ L ≤ 120 ∧ zI σ 17 k = nI L ∧ zI τ 2 k = nI L) := by
  obtain ⟨h, hcells⟩ := hA k hk
  have e17 : zrI 0 σ 17 (nI k) = some (zI σ 17 k) := zrI_n (n := 4) (by decide) hk
  have e16 : zrI 0 σ 16 (nI k) = some (zI σ 16 k) := zrI_n (n := 4) (by decide) hk
  have m1 : zrI 1 τ 1 (nI k) = some (zI τ 1 k) := zrI_n (n := 4) (by decide) hk
  have m2 : zrI 1 τ 2 (nI k) = some (zI τ 2 k) := zrI_n (n := 4) (by decide) hk
  unfold fX6_faultOfCells fX6_isOtherSort fX6_areThere fX11_against
  simp only [e17, e16, m1, m2, Option.bind_some]
  rcases h with ⟨h1, h2⟩ | ⟨L, s, hL, hs, h1, h2, h3, h4⟩
  · simp only [h1, h2, Option.bind_some, ↓reduceIte]
    exact ⟨1, by decide, rfl, rfl, fun q => absurd q (by decide)⟩
  · have n1 := nI_m1 (a := L) (by omega)
    have n9 := nI_m9 (a := s) (by omega)
    simp only [h1, h2, h3, h4, n1, n9, ↓reduceIte]
    by_cases e : nI s = y
    · simp only [e, Option.bind_some, ↓reduceIte]
      by_cases hn : n < 0
      · rw [if_neg (fun q => znn.mp q hn), if_neg (fun q => znn.mp q hn)]
        exact ⟨4, by decide, rfl, rfl, fun q => absurd q (by decide)⟩
      · rw [if_pos (znn.mpr hn), if_pos (znn.mpr hn)]
        by_cases hi : i < 0
        · simp only [hi, Option.bind_some, ↓reduceIte]
          exact ⟨3, by decide, rfl, rfl, fun q => absurd q (by decide)⟩
        · obtain ⟨a, ha, rfl⟩ := nI_of hi
          obtain ⟨b, hb, rfl⟩ := nI_of hn
          simp only [hi, ↓reduceIte, zsub_lt (L := L) (b := b) (a := a) (by omega) hb ha, zle_sub (L := L) (b := b) (a := a) (by omega) hb ha, nI_ltI (a := L) (b := a) (by omega) ha]
          by_cases h5 : a + b ≤ L
          · rw [if_neg (by omega), if_neg (by omega), if_pos h5]
            simp only [Option.bind_some]
            rw [if_neg (by decide)]
            exact ⟨0, by decide, rfl, rfl, fun _ => ⟨a, b, L, rfl, rfl, h5, hL, rfl, rfl⟩⟩
          · rw [if_pos (by omega), if_neg h5]
            simp only [Option.bind_some, ↓reduceIte]
            refine ⟨3, by decide, rfl, ?_, fun q => absurd q (by decide)⟩
            by_cases h6 : L < a
            · rw [if_pos h6]; rfl
            · rw [if_neg h6]; rfl
    · simp only [e, Option.bind_some, ↓reduceIte]
      rw [if_neg (by decide)]
      exact ⟨2, by decide, rfl, rfl, fun q => absurd q (by decide)⟩
theorem comeTo0 (σ : zSt) : fX10_comeTo (zwI σ 0 10 0) 0 = (0, zwI σ 0 10 0) := by
  unfold fX10_comeTo
  rw [if_pos rfl, zww]
theorem comeToN (σ : zSt) {r : Nat} (h : 0 < r) (h4 : r ≤ 4) : fX10_comeTo σ (nI r) = (-10 - nI r, zwI σ 0 10 (nI r)) ∧ ¬ (-10 - nI r : Int32) = 0 := by
  unfold fX10_comeTo
  rw [if_neg (nI_ne0 h (by omega))]
  refine ⟨rfl, ?_⟩
  rcases (show r = 1 ∨ r = 2 ∨ r = 3 ∨ r = 4 by omega) with rfl | rfl | rfl | rfl <;> decide
theorem refuse0 (σ : zSt) {k s : Nat} (hk : k < 4) (hs : s < 3) : fX10_refuseRow σ (nI k) (nI s) = (0, zwI σ 0 10 0) := by
  unfold fX10_refuseRow
  rw [z_has6, z_sort]
  rcases zIn_c (nI k) (m := 4) (by decide) with h | ⟨j, hj, e, h⟩
  · unfold zIn at h
    rw [if_neg (nI_pos (by omega)), i_nle hk (by decide)] at h
    exact absurd h (by decide)
  · rcases zIn_c (nI s) (m := 3) (by decide) with h2 | ⟨j2, hj2, e2, h2⟩
    · unfold zIn at h2
      rw [if_neg (nI_pos (by omega)), i_nle hs (by decide)] at h2
      exact absurd h2 (by decide)
    · rw [h, h2, i10, i10]
theorem q_fillI {σ : zSt} {j n : Nat} (hj : zkI 0 j n) (hn : n < 1000) (v : Int32) : ∃ σ', fJ7_fill_53178 σ j v = some σ' ∧ (∀ c k, zI σ' c k = if c = j ∧ k < n then v else zI σ c k) ∧ σ'.2 = σ.2 := by
  unfold fJ7_fill_53178 zln
  rw [if_pos ⟨hj.1, hj.2.1⟩, hj.2.2.2]
  simp only [Option.bind_some]
  obtain ⟨b, h1, h2⟩ := zl_inv (body := fun a : Int32 × zSt => bJ7_fill_53178_5 j v (Int32.ofNat n) a.1 a.2) (fun i a => a.1 = nI i ∧ (∀ c k, zI a.2 c k = if c = j ∧ k < i then v else zI σ c k) ∧ a.2.2 = σ.2) n (fun b => (∀ c k, zI b.2 c k = if c = j ∧ k < n then v else zI σ c k) ∧ b.2.2 = σ.2) (a := ((0 : Int32), σ)) ⟨rfl, fun c k => by rw [if_neg (by omega)], rfl⟩ (fun i a hi hI => by
      obtain ⟨x, s⟩ := a
      obtain ⟨h1, h2, h3⟩ := hI
      have h1 : x = nI i := h1
      subst h1
      refine ⟨(nI i + 1, zwI s j i v), ?_, nI_1 i, fun c k => ?_, h3⟩
      · show bJ7_fill_53178_5 j v (nI n) (nI i) s = _
        unfold bJ7_fill_53178_5
        rw [i_nle hi (by omega), zsI_n hj hi (by omega)]
        rfl
      · show zI (zwI s j i v) c k = _
        rw [zI_wI]
        have h2 : ∀ c k, zI s c k = if c = j ∧ k < i then v else zI σ c k := h2
        rw [h2]
        by_cases e : c = j ∧ k = i
        · rw [if_pos e, if_pos (by omega)]
        · rw [if_neg e]
          by_cases e2 : c = j ∧ k < i
          · rw [if_pos e2, if_pos (by omega)]
          · rw [if_neg e2, if_neg (by omega)]) (fun a hI => by
      obtain ⟨x, s⟩ := a
      obtain ⟨h1, h2, h3⟩ := hI
      have h1 : x = nI n := h1
      subst h1
      refine ⟨(nI n, s), ?_, h2, h3⟩
      show bJ7_fill_53178_5 j v (nI n) (nI n) s = _
      unfold bJ7_fill_53178_5
      rw [i_le (Nat.le_refl _) (by omega)]) hn
  rw [h1]
  exact ⟨b.2, rfl, h2.1, h2.2⟩
theorem q_fillJ {σ : zSt} {j n : Nat} (hj : zkJ 0 j n) (hn : n < 1000) (v : Int64) : ∃ σ', fJ7_fill_d0a16 σ j v = some σ' ∧ (∀ c k, zJ σ' c k = if c = j ∧ k < n then v else zJ σ c k) ∧ σ'.1 = σ.1 ∧ σ'.2.2 = σ.2.2 := by
  unfold fJ7_fill_d0a16 zln
  rw [if_pos ⟨hj.1, hj.2.1⟩, hj.2.2.2]
  simp only [Option.bind_some]
  obtain ⟨b, h1, h2⟩ := zl_inv (body := fun a : Int32 × zSt => bJ7_fill_d0a16_6 j v (Int32.ofNat n) a.1 a.2) (fun i a => a.1 = nI i ∧ (∀ c k, zJ a.2 c k = if c = j ∧ k < i then v else zJ σ c k) ∧ a.2.1 = σ.1 ∧ a.2.2.2 = σ.2.2) n (fun b => (∀ c k, zJ b.2 c k = if c = j ∧ k < n then v else zJ σ c k) ∧ b.2.1 = σ.1 ∧ b.2.2.2 = σ.2.2) (a := ((0 : Int32), σ)) ⟨rfl, fun c k => by rw [if_neg (by omega)], rfl, rfl⟩ (fun i a hi hI => by
      obtain ⟨x, s⟩ := a
      obtain ⟨h1, h2, h3⟩ := hI
      have h1 : x = nI i := h1
      subst h1
      refine ⟨(nI i + 1, zwJ s j i v), ?_, nI_1 i, fun c k => ?_, h3⟩
      · show bJ7_fill_d0a16_6 j v (nI n) (nI i) s = _
        unfold bJ7_fill_d0a16_6
        rw [i_nle hi (by omega), zsJ_n hj hi (by omega)]
        rfl
      · show zJ (zwJ s j i v) c k = _
        rw [zJ_wJ]
        have h2 : ∀ c k, zJ s c k = if c = j ∧ k < i then v else zJ σ c k := h2
        rw [h2]
        by_cases e : c = j ∧ k = i
        · rw [if_pos e, if_pos (by omega)]
        · rw [if_neg e]
          by_cases e2 : c = j ∧ k < i
          · rw [if_pos e2, if_pos (by omega)]
          · rw [if_neg e2, if_neg (by omega)]) (fun a hI => by
      obtain ⟨x, s⟩ := a
      obtain ⟨h1, h2, h3⟩ := hI
      have h1 : x = nI n := h1
      subst h1
      refine ⟨(nI n, s), ?_, h2, h3⟩
      show bJ7_fill_d0a16_6 j v (nI n) (nI n) s = _
      unfold bJ7_fill_d0a16_6
      rw [i_le (Nat.le_refl _) (by omega)]) hn
  rw [h1]
  exact ⟨b.2, rfl, h2⟩
theorem q_zeroM {τ : zSt} {k : Nat} (hk : k < 4) : ∃ b, zLp (fun a : Int32 × zSt => bX11_sheet_57 (nI k) a.1 a.2) zFU ((0 : Int32), τ) = some b ∧ (∀ c p, zI b.2 c p = if c = 3 ∧ 120 * k ≤ p ∧ p < 120 * k + 120 then 0 else zI τ c p) := by
  refine zl_inv (a := ((0 : Int32), τ)) (fun i (a : Int32 × zSt) => a.1 = nI i ∧ ∀ c p, zI a.2 c p = if c = 3 ∧ 120 * k ≤ p ∧ p < 120 * k + i then 0 else zI τ c p) 120 (fun (b : Int32 × zSt) => ∀ c p, zI b.2 c p = if c = 3 ∧ 120 * k ≤ p ∧ p < 120 * k + 120 then 0 else zI τ c p) ⟨rfl, fun c p => by rw [if_neg (by omega)]⟩ ?_ ?_ (by decide)
  · intro i a hi hI
    obtain ⟨x, s⟩ := a
    obtain ⟨h1, h2⟩ := hI
    have h1 : x = nI i := h1
    have h2 : ∀ c p, zI s c p = if c = 3 ∧ 120 * k ≤ p ∧ p < 120 * k + i then 0 else zI τ c p := h2
    subst h1
    refine ⟨(nI i + 1, zwI s 3 (120 * k + i) 0), ?_, nI_1 i, fun c p => ?_⟩
    · show bX11_sheet_57 (nI k) (nI i) s = _
      unfold bX11_sheet_57
      rw [show (120 : Int32) = nI 120 from rfl, i_nle hi (by decide), pk_mul, nI_add, zsI_n (n := 480) (by decide) (by omega)]
      rfl
    · show zI (zwI s 3 (120 * k + i) 0) c p = _
      rw [zI_wI, h2]
      by_cases e : c = 3 ∧ p = 120 * k + i
      · rw [if_pos e, if_pos (by omega)]
      · rw [if_neg e]
        by_cases e2 : c = 3 ∧ 120 * k ≤ p ∧ p < 120 * k + i
        · rw [if_pos e2, if_pos (by omega)]
        · rw [if_neg e2, if_neg (by omega)]
  · intro a hI
    obtain ⟨x, s⟩ := a
    obtain ⟨h1, h2⟩ := hI
    have h1 : x = nI 120 := h1
    subst h1
    refine ⟨(nI 120, s), ?_, h2⟩
    show bX11_sheet_57 (nI k) (nI 120) s = _
    unfold bX11_sheet_57
    rw [show (120 : Int32) = nI 120 from rfl, i_le (Nat.le_refl _) (by decide)]
/-- the sheets alone have changed -/
theorem Inv.sht {σ τ σ' τ' : zSt} (h : Inv σ τ) (hA : pA σ' τ') (hs : ∀ c k, ¬ (12 ≤ c ∧ c ≤ 17) → zI σ' c k = zI σ c k) (ht : ∀ c k, ¬ (1 ≤ c ∧ c ≤ 3) → zI τ' c k = zI τ c k) (h2 : σ'.2 = σ.2) : Inv σ' τ' := by
  obtain ⟨n, T, c, kd, td, v, pl, sp, t, tb, tw, th, ts, tm, -, hT, hC, hW, hU, hR, hX⟩ := h
  have hJ : ∀ c k, zJ σ' c k = zJ σ c k := fun c k => by unfold zJ; rw [h2]
  have hRr : ∀ c k, zR σ' c k = zR σ c k := fun c k => by unfold zR; rw [h2]
  refine ⟨n, T, c, kd, td, v, pl, sp, t, tb, tw, th, ts, tm, hA, hT.mv ?_ ?_ ?_ ?_, hC.mv ?_ ?_ ?_ ?_, hW.mv ?_ ?_ ?_ ?_ hT.2.1, hU.mv ?_ ?_ ?_ ?_, hR.mv (hRr _ _) (hRr _ _) (hRr _ _) (hRr _ _) (hs _ _ (by omega)) (hJ _ _), ?_, ?_⟩
  all_goals first
    | (intros; first | (apply hs; omega) | (apply ht; omega))
    | (rw [hs _ _ (by omega), ht _ _ (by omega)]; first | exact hX.1 | exact hX.2)
theorem q_sheet {σ τ : zSt} (h : Inv σ τ) (x y z : Int32) : ∃ r σ' τ', fX10_sheet σ x y z = some (r, σ') ∧ fX11_sheet τ x y z = some (r, τ') ∧ Inv σ' τ' := by
  have h0 := h.flt (x := 0) (y := 0) rfl
  unfold fX10_sheet fX11_sheet
  rw [z_sheetM, z_sortM]
  rcases zIn_c x (m := 4) (by decide) with e | ⟨k, hk, rfl, e⟩
  · have e2 : fX10_refuseRow σ x y = (-1, zwI σ 0 10 0) := by unfold fX10_refuseRow; rw [z_has6, e, i00]
    rw [e2, e, i00, if_neg (show ¬ ((-1 : Int32) = 0) by decide)]
    exact ⟨_, _, _, rfl, rfl, h0⟩
  rcases zIn_c y (m := 3) (by decide) with e3 | ⟨s, hs, rfl, e3⟩
  · have e2 : fX10_refuseRow σ (nI k) y = (-2, zwI σ 0 10 0) := by unfold fX10_refuseRow; rw [z_has6, z_sort, e, e3, i00, i10]
    rw [e2, e, e3, i10, i00, if_neg (show ¬ ((-2 : Int32) = 0) by decide)]
    exact ⟨_, _, _, rfl, rfl, h0⟩
  rw [refuse0 σ hk hs, e, e3, i10, i10]
  simp only [↓reduceIte]
  generalize zwI σ 0 10 0 = σ0 at h0 ⊢
  generalize zwI τ 0 0 0 = τ0 at h0 ⊢
  by_cases h1 : z ≤ 120
  · rw [if_pos h1, if_pos h1]
    by_cases h2 : z < 0
    · rw [if_neg (fun q => znn.mp q h2), if_neg (fun q => znn.mp q h2)]
      have f4 := (comeToN σ0 (r := 4) (by decide) (by decide)).1
      rw [show (4 : Int32) = nI 4 from rfl, f4]
      exact ⟨_, _, _, rfl, rfl, h0.flt rfl⟩
    · rw [if_pos (znn.mpr h2), if_pos (znn.mpr h2)]
      obtain ⟨n, hn, rfl⟩ := nI_of h2
      have hn' : n ≤ 120 := by
        rcases Nat.lt_or_ge 120 n with q | q
        · exact absurd h1 (nI_ge q hn)
        · exact q
      unfold fX6_renew
      rw [zrA_n (n := 4) (by decide) hk]
      simp only [Option.bind_some]
      obtain ⟨σ1, g1, g2, g3⟩ := q_fillI (σ := σ0) (zkRow k hk) (by decide) 0
      rw [show 11 + 1 + k = 12 + k by omega, g1]
      simp only [Option.bind_some]
      rw [zsI_n (n := 4) (by decide) hk, zsI_n (n := 4) (by decide) hk]
      simp only [Option.bind_some]
      rw [zsI_n (n := 4) (by decide) hk, zsI_n (n := 4) (by decide) hk]
      simp only [Option.bind_some]
      obtain ⟨b, g4, g5⟩ := q_zeroM (τ := zwI (zwI τ0 1 k (nI s)) 2 k (nI n)) hk
      rw [g4]
      refine ⟨_, _, _, rfl, rfl, h0.sht ?_ ?_ ?_ g3⟩
      · intro k' hk'
        obtain ⟨n0, T, c, kd, td, v, pl, sp, t, tb, tw, th, ts, tm, hA, -⟩ := h0
        obtain ⟨q1, q2⟩ := hA k' hk'
        by_cases e9 : k' = k
        · subst e9
          refine ⟨Or.inr ⟨n, s, hn', by omega, ?_, ?_, ?_, ?_⟩, fun i hi => ?_⟩
          · rw [zI_self]
          · rw [g5, if_neg (by omega), zI_self]
          · simp (disch := omega) only [zI_ne, zI_self]
          · rw [g5, if_neg (by omega)]; simp (disch := omega) only [zI_ne, zI_self]
          · rw [g5, if_pos (by omega)]
            simp (disch := omega) only [zI_ne]
            rw [g2, if_pos ⟨rfl, hi⟩]
        · simp (disch := omega) only [zI_ne, g2, g5]
          rw [if_neg (by omega), if_neg (by omega), if_neg (by omega), if_neg (by omega)]
          refine ⟨q1, fun i hi => ?_⟩
          rw [if_neg (by omega), if_neg (by omega)]
          exact q2 i hi
      · intro c p hc
        simp (disch := omega) only [zI_ne, g2]
        rw [if_neg (by omega)]
      · intro c p hc
        rw [g5, if_neg (by omega)]
        simp (disch := omega) only [zI_ne]
  · rw [if_neg h1, if_neg h1]
    exact ⟨_, _, _, rfl, rfl, h0⟩
theorem q_lose {σ τ : zSt} (h : Inv σ τ) (x : Int32) : ∃ r σ' τ', fX10_lose σ x = some (r, σ') ∧ fX11_lose τ x = some (r, τ') ∧ Inv σ' τ' := by
  unfold fX10_lose fX11_lose fX6_drop
  rw [z_has6, z_sheetM]
  rcases zIn_c x (m := 4) (by decide) with e | ⟨k, hk, rfl, e⟩
  · rw [e, i00, i00]
    exact ⟨_, _, _, rfl, rfl, h⟩
  rw [e, i10, i10, zrI_n (n := 4) (by decide) hk, zrI_n (n := 4) (by decide) hk, zsI_n (n := 4) (by decide) hk, zsI_n (n := 4) (by decide) hk]
  simp only [Option.bind_some]
  have hA : pA σ τ := by
    obtain ⟨n0, T, c, kd, td, v, pl, sp, t, tb, tw, th, ts, tm, hA, -⟩ := h
    exact hA
  have hI : Inv (zwI σ 17 k (-1)) (zwI τ 1 k (-9)) := by
    refine h.sht (fun k' hk' => ?_) (fun c p hc => zI_ne (by omega)) (fun c p hc => zI_ne (by omega)) rfl
    obtain ⟨q1, q2⟩ := hA k' hk'
    by_cases e9 : k' = k
    · subst e9
      simp (disch := omega) only [zI_ne, zI_self]
      refine ⟨Or.inl ⟨?_, ?_⟩, q2⟩ <;> first | rfl | trivial
    · simp (disch := omega) only [zI_ne, zI_self]
      exact ⟨q1, q2⟩
  rcases (hA k hk).1 with ⟨h1, h2⟩ | ⟨L, s, hL, hs, h1, h2, h3, h4⟩
  · rw [h1, h2, if_pos rfl, if_pos rfl]
    simp only [Option.bind_some, ↓reduceIte]
    exact ⟨_, _, _, rfl, rfl, hI⟩
  · rw [h1, h4, if_neg (nI_m1 (by omega)), if_neg (nI_m9 (by omega))]
    simp only [Option.bind_some]
    rw [if_neg (by decide)]
    exact ⟨_, _, _, rfl, rfl, hI⟩
theorem q_faultCell {σ τ : zSt} (hA : pA σ τ) {k : Nat} (hk : k < 4) (i : Int32) : (zI σ 17 k = -1 ∧ zI τ 1 k = -9 ∧ fX6_faultOfCell σ (nI k) i = some 1) ∨ ∃ L s, L ≤ 120 ∧ s ≤ 2 ∧ zI σ 17 k = nI L ∧ zI τ 2 k = nI L ∧ zI σ 16 k = nI s ∧ zI τ 1 k = nI s ∧ ((fX6_faultOfCell σ (nI k) i = some 3 ∧ fX11_within i 0 (nI L - 1) = 0) ∨ ∃ a, a < L ∧ i = nI a ∧ fX6_faultOfCell σ (nI k) i = some 0 ∧ fX11_within i 0 (nI L - 1) = 1) := by
  have e17 : zrI 0 σ 17 (nI k) = some (zI σ 17 k) := zrI_n (n := 4) (by decide) hk
  unfold fX6_faultOfCell
  simp only [e17, Option.bind_some]
  rcases (hA k hk).1 with ⟨h1, h2⟩ | ⟨L, s, hL, hs, h1, h2, h3, h4⟩
  · refine Or.inl ⟨h1, h2, ?_⟩
    rw [h1, if_pos rfl]
  · refine Or.inr ⟨L, s, hL, hs, h1, h2, h3, h4, ?_⟩
    rw [h1, if_neg (nI_m1 (by omega))]
    unfold fX11_within
    by_cases hi : i < 0
    · rw [if_pos hi, if_pos hi]
      exact Or.inl ⟨rfl, rfl⟩
    · obtain ⟨a, ha, rfl⟩ := nI_of hi
      rw [if_neg hi, if_neg hi]
      have hw : nI L - 1 < nI a ↔ L < a + 1 := zsub_lt (L := L) (b := 1) (by omega) (by decide) ha
      by_cases hL2 : a < L
      · rw [i_lt hL2 (by omega), if_neg (fun q => by have := hw.mp q; omega)]
        exact Or.inr ⟨a, hL2, rfl, rfl, rfl⟩
      · rw [i_nlt (by omega) ha, if_pos (hw.mpr (by omega))]
        exact Or.inl ⟨rfl, rfl⟩
theorem q_put {σ τ : zSt} (h : Inv σ τ) (x y z : Int32) : ∃ r σ' τ', fX10_put σ x y z = some (r, σ') ∧ fX11_put τ x y z = some (r, τ') ∧ Inv σ' τ' := by
  have h0 := h.flt (x := 0) (y := 0) rfl
  unfold fX10_put fX11_put
  rw [z_sheetM, z_has6]
  rcases zIn_c x (m := 4) (by decide) with e | ⟨k, hk, rfl, e⟩
  · rw [e, i00, i00]
    exact ⟨_, _, _, rfl, rfl, h0⟩
  rw [e, i10, i10]
  have c0 := comeTo0 σ
  generalize zwI σ 0 10 0 = σ0 at h0 c0 ⊢
  generalize zwI τ 0 0 0 = τ0 at h0 ⊢
  have hA : pA σ0 τ0 := by
    obtain ⟨n0, T, c, kd, td, v, pl, sp, t, tb, tw, th, ts, tm, hA, -⟩ := h0
    exact hA
  have m1 : zrI 1 τ0 1 (nI k) = some (zI τ0 1 k) := zrI_n (n := 4) (by decide) hk
  have m2 : zrI 1 τ0 2 (nI k) = some (zI τ0 2 k) := zrI_n (n := 4) (by decide) hk
  simp only [m1, m2, Option.bind_some]
  have hfail : ∀ r : Nat, 0 < r → r ≤ 4 → (fX10_comeTo σ0 (nI r)).1 = (fX11_fails τ0 (nI r)).1 ∧ Inv (fX10_comeTo σ0 (nI r)).2 (fX11_fails τ0 (nI r)).2 := fun r h1 h4 => by
    rw [(comeToN σ0 h1 h4).1]
    exact ⟨rfl, h0.flt rfl⟩
  rcases q_faultCell hA hk y with ⟨h1, h2, h3⟩ | ⟨L, s, hL, hs, h1, h2, h3, h4, h5⟩
  · rw [h2, h3, if_pos rfl]
    simp only [Option.bind_some]
    obtain ⟨f1, f2⟩ := hfail 1 (by decide) (by decide)
    have f3 := (comeToN σ0 (r := 1) (by decide) (by decide)).2
    rw [show (1 : Int32) = nI 1 from rfl, if_neg (by rw [(comeToN σ0 (r := 1) (by decide) (by decide)).1]; exact f3), f1]
    exact ⟨_, _, _, rfl, rfl, f2⟩
  · rw [h4, h2, if_neg (nI_m9 (by omega))]
    rcases h5 with ⟨g1, g2⟩ | ⟨a, ha, rfl, g1, g2⟩
    · rw [g1, g2, i00]
      simp only [Option.bind_some]
      obtain ⟨f1, f2⟩ := hfail 3 (by decide) (by decide)
      have f3 := (comeToN σ0 (r := 3) (by decide) (by decide)).2
      rw [show (3 : Int32) = nI 3 from rfl, if_neg (by rw [(comeToN σ0 (r := 3) (by decide) (by decide)).1]; exact f3), f1]
      exact ⟨_, _, _, rfl, rfl, f2⟩
    · rw [g1, g2, i10]
      simp only [Option.bind_some]
      rw [c0, if_pos rfl]
      unfold fX6_write
      rw [zrA_n (n := 4) (by decide) hk, zrI_n (n := 4) (by decide) hk]
      simp only [Option.bind_some]
      rw [h3, show 11 + 1 + k = 12 + k by omega, show (120 : Int32) = nI 120 from rfl, pk_mul, nI_add]
      have hI : ∀ u : Int32, Inv (zwI σ0 (12 + k) a u) (zwI τ0 3 (120 * k + a) u) := fun u => by
        refine h0.sht (fun k' hk' => ?_) (fun c p hc => zI_ne (by omega)) (fun c p hc => zI_ne (by omega)) rfl
        obtain ⟨q1, q2⟩ := hA k' hk'
        simp (disch := omega) only [zI_ne]
        refine ⟨q1, fun i hi => ?_⟩
        by_cases e9 : k' = k ∧ i = a
        · obtain ⟨rfl, rfl⟩ := e9
          rw [zI_self, zI_self]
        · rw [zI_ne (by omega), zI_ne (by omega)]
          exact q2 i hi
      simp only [zsI_n (σ := σ0) (zkRow k hk) (show a < 120 by omega), zsI_n (w := 1) (j := 3) (n := 480) (σ := τ0) (by decide) (show 120 * k + a < 480 by omega), Option.bind_some]
      by_cases e0 : nI s = 0
      · rw [if_pos e0, if_pos e0]
        exact ⟨_, _, _, rfl, rfl, hI _⟩
      · rw [if_neg e0, if_neg e0]
        by_cases e1 : nI s = 1
        · rw [if_pos e1, if_pos e1]
          exact ⟨_, _, _, rfl, rfl, hI _⟩
        · rw [if_neg e1, if_neg e1]
          exact ⟨_, _, _, rfl, rfl, hI _⟩
theorem q_copyM {τ : zSt} {k i k' j n : Nat} (hk : k < 4) (hk' : k' < 4) (hi : i + n ≤ 120) (hj : j + n ≤ 120) (fl : Int32) (hfl : (fl = 0 ∧ j ≤ i) ∨ (fl = 1 ∧ i < j)) : ∃ b, zLp (fun a : Int32 × zSt => bX11_copy_166 (nI k) (nI i) (nI k') (nI j) (nI n) fl a.1 a.2) zFU ((0 : Int32), τ) = some b ∧ (∀ c p, zI b.2 c p = if c = 3 ∧ 120 * k' + j ≤ p ∧ p < 120 * k' + j + n then zI τ 3 (120 * k + i + (p - (120 * k' + j))) else zI τ c p) := by
  rcases hfl with ⟨rfl, hd⟩ | ⟨rfl, hd⟩
  · refine zl_inv (a := ((0 : Int32), τ)) (fun q (a : Int32 × zSt) => a.1 = nI q ∧ ∀ c p, zI a.2 c p = if c = 3 ∧ 120 * k' + j ≤ p ∧ p < 120 * k' + j + q then zI τ 3 (120 * k + i + (p - (120 * k' + j))) else zI τ c p) n (fun (b : Int32 × zSt) => ∀ c p, zI b.2 c p = if c = 3 ∧ 120 * k' + j ≤ p ∧ p < 120 * k' + j + n then zI τ 3 (120 * k + i + (p - (120 * k' + j))) else zI τ c p) ⟨rfl, fun c p => by rw [if_neg (by omega)]⟩ ?_ ?_ (by omega)
    · intro q a hq hI
      obtain ⟨x, s⟩ := a
      obtain ⟨h1, h2⟩ := hI
      have h1 : x = nI q := h1
      have h2 : ∀ c p, zI s c p = if c = 3 ∧ 120 * k' + j ≤ p ∧ p < 120 * k' + j + q then zI τ 3 (120 * k + i + (p - (120 * k' + j))) else zI τ c p := h2
      subst h1
      refine ⟨(nI q + 1, zwI s 3 (120 * k' + j + q) (zI τ 3 (120 * k + i + q))), ?_, nI_1 q, fun c p => ?_⟩
      · show bX11_copy_166 (nI k) (nI i) (nI k') (nI j) (nI n) 0 (nI q) s = _
        unfold bX11_copy_166
        rw [i_nle hq (by omega), if_pos rfl, show (120 : Int32) = nI 120 from rfl, pk_mul, pk_mul, nI_add, nI_add, nI_add, nI_add, zrI_n (n := 480) (by decide) (by omega)]
        simp only [Option.bind_some]
        rw [zsI_n (n := 480) (by decide) (by omega), h2, if_neg (by omega)]
        rfl
      · show zI (zwI s 3 (120 * k' + j + q) (zI τ 3 (120 * k + i + q))) c p = _
        rw [zI_wI, h2]
        by_cases e : c = 3 ∧ p = 120 * k' + j + q
        · rw [if_pos e, if_pos (by omega), e.2]
          congr 1
          omega
        · rw [if_neg e]
          by_cases e2 : c = 3 ∧ 120 * k' + j ≤ p ∧ p < 120 * k' + j + q
          · rw [if_pos e2, if_pos (by omega)]
          · rw [if_neg e2, if_neg (by omega)]
    · intro a hI
      obtain ⟨x, s⟩ := a
      obtain ⟨h1, h2⟩ := hI
      have h1 : x = nI n := h1
      subst h1
      refine ⟨(nI n, s), ?_, h2⟩
      show bX11_copy_166 (nI k) (nI i) (nI k') (nI j) (nI n) 0 (nI n) s = _
      unfold bX11_copy_166
      rw [i_le (Nat.le_refl _) (by omega)]
  · refine zl_inv (a := ((0 : Int32), τ)) (fun q (a : Int32 × zSt) => a.1 = nI q ∧ ∀ c p, zI a.2 c p = if c = 3 ∧ 120 * k' + j + (n - q) ≤ p ∧ p < 120 * k' + j + n then zI τ 3 (120 * k + i + (p - (120 * k' + j))) else zI τ c p) n (fun (b : Int32 × zSt) => ∀ c p, zI b.2 c p = if c = 3 ∧ 120 * k' + j ≤ p ∧ p < 120 * k' + j + n then zI τ 3 (120 * k + i + (p - (120 * k' + j))) else zI τ c p) ⟨rfl, fun c p => by rw [if_neg (by omega)]⟩ ?_ ?_ (by omega)
    · intro q a hq hI
      obtain ⟨x, s⟩ := a
      obtain ⟨h1, h2⟩ := hI
      have h1 : x = nI q := h1
      have h2 : ∀ c p, zI s c p = if c = 3 ∧ 120 * k' + j + (n - q) ≤ p ∧ p < 120 * k' + j + n then zI τ 3 (120 * k + i + (p - (120 * k' + j))) else zI τ c p := h2
      subst h1
      refine ⟨(nI q + 1, zwI s 3 (120 * k' + j + (n - 1 - q)) (zI τ 3 (120 * k + i + (n - 1 - q)))), ?_, nI_1 q, fun c p => ?_⟩
      · show bX11_copy_166 (nI k) (nI i) (nI k') (nI j) (nI n) 1 (nI q) s = _
        unfold bX11_copy_166
        rw [i_nle hq (by omega), if_neg (by decide), show (120 : Int32) = nI 120 from rfl, show (1 : Int32) = nI 1 from rfl, pk_mul, pk_mul, nI_add, nI_add, pk_sub (by omega), pk_sub (by omega), nI_add, nI_add, zrI_n (n := 480) (by decide) (by omega)]
        simp only [Option.bind_some]
        rw [zsI_n (n := 480) (by decide) (by omega), h2, if_neg (by omega)]
        rfl
      · show zI (zwI s 3 (120 * k' + j + (n - 1 - q)) (zI τ 3 (120 * k + i + (n - 1 - q)))) c p = _
        rw [zI_wI, h2]
        by_cases e : c = 3 ∧ p = 120 * k' + j + (n - 1 - q)
        · rw [if_pos e, if_pos (by omega), e.2]
          congr 1
          omega
        · rw [if_neg e]
          by_cases e2 : c = 3 ∧ 120 * k' + j + (n - q) ≤ p ∧ p < 120 * k' + j + n
          · rw [if_pos e2, if_pos (by omega)]
          · rw [if_neg e2, if_neg (by omega)]
    · intro a hI
      obtain ⟨x, s⟩ := a
      obtain ⟨h1, h2⟩ := hI
      have h1 : x = nI n := h1
      have h2 : ∀ c p, zI s c p = if c = 3 ∧ 120 * k' + j + (n - n) ≤ p ∧ p < 120 * k' + j + n then zI τ 3 (120 * k + i + (p - (120 * k' + j))) else zI τ c p := h2
      subst h1
      refine ⟨(nI n, s), ?_, fun c p => ?_⟩
      · show bX11_copy_166 (nI k) (nI i) (nI k') (nI j) (nI n) 1 (nI n) s = _
        unfold bX11_copy_166
        rw [i_le (Nat.le_refl _) (by omega)]
      · show zI s c p = _
        rw [h2, Nat.sub_self, Nat.add_zero]
theorem q_copy {σ τ : zSt} (h : Inv σ τ) (x y z u w : Int32) : ∃ r σ' τ', fX10_copy σ x y z u w = some (r, σ') ∧ fX11_copy τ x y z u w = some (r, τ') ∧ Inv σ' τ' := by
  have h0 := h.flt (x := 0) (y := 0) rfl
  unfold fX10_copy fX11_copy
  rw [z_sheetM, z_sheetM, z_has6, z_has6]
  rcases zIn_c x (m := 4) (by decide) with e | ⟨k, hk, rfl, e⟩
  · rw [e, i00, i00]
    exact ⟨_, _, _, rfl, rfl, h0⟩
  rw [e, i10, i10]
  rcases zIn_c z (m := 4) (by decide) with e | ⟨k', hk', rfl, e⟩
  · rw [e, i00, i00]
    exact ⟨_, _, _, rfl, rfl, h0⟩
  rw [e, i10, i10]
  have c0 := comeTo0 σ
  generalize zwI σ 0 10 0 = σ0 at h0 c0 ⊢
  generalize zwI τ 0 0 0 = τ0 at h0 ⊢
  have hA : pA σ0 τ0 := by
    obtain ⟨n0, T, c, kd, td, v, pl, sp, t, tb, tw, th, ts, tm, hA, -⟩ := h0
    exact hA
  have m1 : zrI 1 τ0 1 (nI k) = some (zI τ0 1 k) := zrI_n (n := 4) (by decide) hk
  have m2 : zrI 1 τ0 2 (nI k) = some (zI τ0 2 k) := zrI_n (n := 4) (by decide) hk
  have m3 : zrI 1 τ0 1 (nI k') = some (zI τ0 1 k') := zrI_n (n := 4) (by decide) hk'
  have m4 : zrI 1 τ0 2 (nI k') = some (zI τ0 2 k') := zrI_n (n := 4) (by decide) hk'
  have e1 : zrI 0 σ0 17 (nI k) = some (zI σ0 17 k) := zrI_n (n := 4) (by decide) hk
  have e2 : zrI 0 σ0 16 (nI k) = some (zI σ0 16 k) := zrI_n (n := 4) (by decide) hk
  have e3 : zrI 0 σ0 17 (nI k') = some (zI σ0 17 k') := zrI_n (n := 4) (by decide) hk'
  have e4 : zrI 0 σ0 16 (nI k') = some (zI σ0 16 k') := zrI_n (n := 4) (by decide) hk'
  have hfail : ∀ r : Nat, 0 < r → r ≤ 4 → (fX10_comeTo σ0 (nI r)) = ((fX11_fails τ0 (nI r)).1, zwI σ0 0 10 (nI r)) ∧ ¬ (fX11_fails τ0 (nI r)).1 = 0 ∧ Inv (zwI σ0 0 10 (nI r)) (fX11_fails τ0 (nI r)).2 := fun r h1 h4 => by
    rw [(comeToN σ0 h1 h4).1]
    exact ⟨rfl, (comeToN σ0 h1 h4).2, h0.flt rfl⟩
  unfold fX6_faultOfCopy fX6_areThere
  simp only [m1, m2, m3, m4, e1, e2, e3, e4, Option.bind_some]
  have f1 := hfail 1 (by decide) (by decide)
  have f2 := hfail 2 (by decide) (by decide)
  have f3 := hfail 3 (by decide) (by decide)
  have done1 : ∃ r σ' τ', (if (fX10_comeTo σ0 (1 : Int32)).1 = (0 : Int32) then (zrA 0 11 (nI k)).bind fun q6 => (zrA 0 11 (nI k')).bind fun q8 => (zcp 0 ((fX10_comeTo σ0 (1 : Int32)).2) q6 y q8 u w).bind fun s10 => some (w, s10) else some ((fX10_comeTo σ0 (1 : Int32)).1, (fX10_comeTo σ0 (1 : Int32)).2)) = some (r, σ') ∧ some ((fX11_fails τ0 (1 : Int32)).1, (fX11_fails τ0 (1 : Int32)).2) = some (r, τ') ∧ Inv σ' τ' := by
    rw [show (1 : Int32) = nI 1 from rfl, f1.1, if_neg f1.2.1]
    exact ⟨_, _, _, rfl, rfl, f1.2.2⟩
  have done2 : ∃ r σ' τ', (if (fX10_comeTo σ0 (2 : Int32)).1 = (0 : Int32) then (zrA 0 11 (nI k)).bind fun q6 => (zrA 0 11 (nI k')).bind fun q8 => (zcp 0 ((fX10_comeTo σ0 (2 : Int32)).2) q6 y q8 u w).bind fun s10 => some (w, s10) else some ((fX10_comeTo σ0 (2 : Int32)).1, (fX10_comeTo σ0 (2 : Int32)).2)) = some (r, σ') ∧ some ((fX11_fails τ0 (2 : Int32)).1, (fX11_fails τ0 (2 : Int32)).2) = some (r, τ') ∧ Inv σ' τ' := by
    rw [show (2 : Int32) = nI 2 from rfl, f2.1, if_neg f2.2.1]
    exact ⟨_, _, _, rfl, rfl, f2.2.2⟩
  have done3 : ∃ r σ' τ', (if (fX10_comeTo σ0 (3 : Int32)).1 = (0 : Int32) then (zrA 0 11 (nI k)).bind fun q6 => (zrA 0 11 (nI k')).bind fun q8 => (zcp 0 ((fX10_comeTo σ0 (3 : Int32)).2) q6 y q8 u w).bind fun s10 => some (w, s10) else some ((fX10_comeTo σ0 (3 : Int32)).1, (fX10_comeTo σ0 (3 : Int32)).2)) = some (r, σ') ∧ some ((fX11_fails τ0 (3 : Int32)).1, (fX11_fails τ0 (3 : Int32)).2) = some (r, τ') ∧ Inv σ' τ' := by
    rw [show (3 : Int32) = nI 3 from rfl, f3.1, if_neg f3.2.1]
    exact ⟨_, _, _, rfl, rfl, f3.2.2⟩
  rcases (hA k hk).1 with ⟨h1, h2⟩ | ⟨L, s, hL, hs, h1, h2, h3, h4⟩
  · rw [h1, h2, if_pos rfl, if_pos rfl]
    exact done1
  rw [h1, h2, h3, h4, if_neg (nI_m1 (by omega)), if_neg (nI_m9 (by omega))]
  rcases (hA k' hk').1 with ⟨g1, g2⟩ | ⟨L', s', hL', hs', g1, g2, g3, g4⟩
  · rw [g1, g2, if_pos rfl, if_pos rfl]
    exact done1
  rw [g1, g2, g3, g4, if_neg (nI_m1 (by omega)), if_neg (nI_m9 (by omega))]
  by_cases hss : nI s = nI s'
  · rw [if_pos hss, if_pos hss]
    by_cases hw : w < 0
    · rw [if_pos hw, if_pos hw]
      have : (if y < 0 then some ((fX11_fails τ0 (3 : Int32)).1, (fX11_fails τ0 (3 : Int32)).2) else if u < 0 then some ((fX11_fails τ0 (3 : Int32)).1, (fX11_fails τ0 (3 : Int32)).2) else some ((fX11_fails τ0 (3 : Int32)).1, (fX11_fails τ0 (3 : Int32)).2)) = some ((fX11_fails τ0 (3 : Int32)).1, (fX11_fails τ0 (3 : Int32)).2) := by
        split
        · rfl
        · split <;> rfl
      rw [this]
      exact done3
    rw [if_neg hw, if_neg hw]
    by_cases hy : y < 0
    · simp only [hy, Option.bind_some, ↓reduceIte]
      exact done3
    rw [if_neg hy, if_neg hy]
    obtain ⟨a, ha, rfl⟩ := nI_of hy
    obtain ⟨m, hm, rfl⟩ := nI_of hw
    simp only [zsub_lt (L := L) (b := m) (a := a) (by omega) hm ha, zsub_lt (L := L) (b := a) (a := m) (by omega) ha hm, nI_ltI (a := L) (b := a) (by omega) ha]
    by_cases hu : u < 0
    · rw [if_pos hu, if_pos hu]
      by_cases h5 : L < a + m
      · rw [if_pos h5]
        simp only [Option.bind_some, ↓reduceIte]
        exact done3
      · rw [if_neg h5]
        simp only [Option.bind_some, ↓reduceIte]
        rw [if_neg (by decide)]
        exact done3
    rw [if_neg hu, if_neg hu]
    obtain ⟨b, hb, rfl⟩ := nI_of hu
    simp only [zsub_lt (L := L') (b := m) (a := b) (by omega) hm hb, zle_sub (L := L') (b := m) (a := b) (by omega) hm hb, nI_ltI (a := L') (b := b) (by omega) hb]
    by_cases h5 : L < a + m
    · rw [if_pos h5]
      simp only [Option.bind_some, ↓reduceIte]
      have : (if L < a then some ((fX11_fails τ0 (3 : Int32)).1, (fX11_fails τ0 (3 : Int32)).2) else if L' < b then some ((fX11_fails τ0 (3 : Int32)).1, (fX11_fails τ0 (3 : Int32)).2) else if L < m + a then some ((fX11_fails τ0 (3 : Int32)).1, (fX11_fails τ0 (3 : Int32)).2) else if b + m ≤ L' then if nI b ≤ nI a then (zLp (fun a_1 => bX11_copy_166 (nI k) (nI a) (nI k') (nI b) (nI m) 0 a_1.1 a_1.2) zFU (0, τ0)).bind fun b36 => some (nI m, b36.2) else (zLp (fun a_1 => bX11_copy_166 (nI k) (nI a) (nI k') (nI b) (nI m) 1 a_1.1 a_1.2) zFU (0, τ0)).bind fun b38 => some (nI m, b38.2) else some ((fX11_fails τ0 (3 : Int32)).1, (fX11_fails τ0 (3 : Int32)).2)) = some ((fX11_fails τ0 (3 : Int32)).1, (fX11_fails τ0 (3 : Int32)).2) := by
        split
        · rfl
        · split
          · rfl
          · rw [if_pos (by omega)]
      rw [this]
      exact done3
    · rw [if_neg h5, if_neg (by omega : ¬ L < a)]
      simp only [Option.bind_some]
      rw [if_neg (by decide)]
      by_cases h6 : L' < b + m
      · rw [if_pos h6]
        simp only [Option.bind_some, ↓reduceIte]
        by_cases h7 : L' < b
        · rw [if_pos h7]
          exact done3
        · rw [if_neg h7, if_neg (by omega : ¬ L < m + a), if_neg (by omega : ¬ b + m ≤ L')]
          exact done3
      · rw [if_neg h6, if_neg (by omega : ¬ L' < b), if_neg (by omega : ¬ L < m + a), if_pos (by omega : b + m ≤ L')]
        simp only [Option.bind_some]
        rw [if_neg (by decide)]
        simp only [Option.bind_some]
        rw [c0, if_pos rfl, zrA_n (n := 4) (by decide) hk, zrA_n (n := 4) (by decide) hk']
        simp only [Option.bind_some]
        rw [show 11 + 1 + k = 12 + k by omega, show 11 + 1 + k' = 12 + k' by omega]
        unfold zcp
        have zk := zkRow k hk
        have zk' := zkRow k' hk'
        have ca : (nI a).toNatClampNeg = a := nI_clamp ha
        have cb : (nI b).toNatClampNeg = b := nI_clamp hb
        have cm : (nI m).toNatClampNeg = m := nI_clamp hm
        rw [ca, cb, cm, if_pos ⟨⟨zk.1, zk.2.1, zk.2.2.1⟩, ⟨zk'.1, zk'.2.1, zk'.2.2.1⟩, ⟨hy, hu, hw⟩, by rw [zk.2.2.2]; omega, by rw [zk'.2.2.2]; omega⟩]
        simp only [Option.bind_some]
        have fin : ∀ τ' : zSt, (∀ c p, zI τ' c p = if c = 3 ∧ 120 * k' + b ≤ p ∧ p < 120 * k' + b + m then zI τ0 3 (120 * k + a + (p - (120 * k' + b))) else zI τ0 c p) → Inv (fun c k_1 => if c = 12 + k' then va_cpy (fun k_2 => zI σ0 (12 + k) k_2) (fun k => zI σ0 (12 + k') k) a b m k_1 else σ0.1 c k_1, σ0.2.1, σ0.2.2) τ' := by
          intro τ' ht
          refine h0.sht (fun k2 hk2 => ?_) (fun c p hc => ?_) (fun c p hc => ?_) rfl
          · have es : ∀ c p, zI (fun c k_1 => if c = 12 + k' then va_cpy (fun k_2 => zI σ0 (12 + k) k_2) (fun k => zI σ0 (12 + k') k) a b m k_1 else σ0.1 c k_1, σ0.2.1, σ0.2.2) c p = if c = 12 + k' then va_cpy (fun k_2 => zI σ0 (12 + k) k_2) (fun k => zI σ0 (12 + k') k) a b m p else zI σ0 c p := fun c p => rfl
            rw [es, es, if_neg (by omega), if_neg (by omega), ht, ht, if_neg (by omega), if_neg (by omega)]
            refine ⟨(hA k2 hk2).1, fun i hi => ?_⟩
            rw [es, ht]
            by_cases e9 : k2 = k'
            · subst e9
              rw [if_pos rfl]
              unfold va_cpy
              by_cases e8 : b ≤ i ∧ i < b + m
              · rw [if_pos e8, if_pos (by omega)]
                show zI σ0 (12 + k) (a + (i - b)) = _
                rw [(hA k hk).2 _ (by omega)]
                congr 1
                omega
              · rw [if_neg e8, if_neg (by omega)]
                exact (hA k2 hk2).2 i hi
            · rw [if_neg (by omega), if_neg (by omega)]
              exact (hA k2 hk2).2 i hi
          · show (if c = 12 + k' then _ else _) = _
            rw [if_neg (by omega)]
            rfl
          · rw [ht, if_neg (by omega)]
        by_cases h8 : b ≤ a
        · obtain ⟨bb, q1, q2⟩ := q_copyM (τ := τ0) hk hk' (i := a) (j := b) (n := m) (by omega) (by omega) 0 (Or.inl ⟨rfl, h8⟩)
          rw [i_le h8 ha, q1]
          exact ⟨_, _, _, rfl, rfl, fin _ q2⟩
        · obtain ⟨bb, q1, q2⟩ := q_copyM (τ := τ0) hk hk' (i := a) (j := b) (n := m) (by omega) (by omega) 1 (Or.inr ⟨rfl, by omega⟩)
          rw [i_nle (by omega) hb, q1]
          exact ⟨_, _, _, rfl, rfl, fin _ q2⟩
  · rw [if_neg hss, if_neg hss]
    exact done2
