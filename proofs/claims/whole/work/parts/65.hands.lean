/-! CARRIES, RETURNS, HANDS -/
section HANDS
theorem chf_ind {C : Nat → Nat → Nat} {a b : Nat} (j : Nat) : chf C (fun k => if k = a then 1 else 0) b j = if a < j then lN (C a b) else 0 := by
  induction j with
  | zero => rfl
  | succ j ih =>
    show chf C _ b j + (if j = a then (1 : Int64) else 0) * lN (C j b) = _
    rw [ih]
    by_cases e : j = a
    · subst e
      rw [if_neg (Nat.lt_irrefl _), if_pos rfl, if_pos (by omega), Int64.one_mul, Int64.zero_add]
    · rw [if_neg e, Int64.zero_mul, Int64.add_zero]
      by_cases e2 : a < j
      · rw [if_pos e2, if_pos (by omega)]
      · rw [if_neg e2, if_neg (by omega)]
theorem chf_lN {C : Nat → Nat → Nat} {D : Nat → Int64} {f : Nat → Nat} {b : Nat} (j : Nat) (h : ∀ i, i < j → D i = lN (f i)) : chf C D b j = lN (sm j (fun i => f i * C i b)) := by
  induction j with
  | zero => rfl
  | succ j ih =>
    show chf C D b j + D j * lN (C j b) = lN (sm j (fun i => f i * C i b) + f j * C j b)
    rw [ih (fun i hi => h i (by omega)), h j (by omega), lN_mul, lN_add]
/-- what is left of the whole -/
def sbf (w : Int64) (D : Nat → Int64) : Nat → Int64
  | 0 => w
  | j + 1 => sbf w D j - D j
theorem c_timesAs {σ : zSt} {n : Nat} {D : Nat → Int64} {w : Int64} (hD : pCh σ n D w) (hn : n ≤ 6) {b : Nat} (hb : b ≤ n) : fX1_timesAs σ (nI b) (nI n) = some (if b = n then sbf w D n else D b) := by
  obtain ⟨p, q, e, h1, h2, hp, hw⟩ := hD
  have kp : zkJ 0 p 6 := by rcases e with e | e <;> rw [e.1] <;> decide
  unfold fX1_timesAs
  by_cases e : b = n
  · subst e
    rw [i_le (Nat.le_refl _) (by omega), if_pos rfl, zl_run (body := fun a : Int64 × Int32 => bX1_timesAs_20 σ (nI b) a.1 a.2) (a := (zJ σ 7 0, (0 : Int32))) (fun j => (sbf w D j, nI j)) b (b := (sbf w D b, nI b)) ?_ ?_ ?_ (by omega)]
    · rfl
    · show (w, nI 0) = _
      rw [hw]
      rfl
    · intro j hj
      show bX1_timesAs_20 σ (nI b) (sbf w D j) (nI j) = _
      unfold bX1_timesAs_20
      rw [i_nle hj (by omega), h1, zrJ_n kp (by omega), Option.bind_some, hp j hj, nI_1]
      rfl
    · show bX1_timesAs_20 σ (nI b) (sbf w D b) (nI b) = _
      unfold bX1_timesAs_20
      rw [i_le (Nat.le_refl _) (by omega)]
  · rw [i_nle (by omega) (by omega), if_neg e, h1, zrJ_n kp (by omega), Option.bind_some, hp b (by omega)]
theorem sbf_lN {D : Nat → Int64} {f : Nat → Nat} {W : Nat} (j : Nat) (h : ∀ i, i < j → D i = lN (f i)) (hs : sm j f ≤ W) : sbf (lN W) D j = lN (W - sm j f) := by
  induction j with
  | zero => rfl
  | succ j ih =>
    have hs : sm j f + f j ≤ W := hs
    show sbf (lN W) D j - D j = lN (W - (sm j f + f j))
    rw [ih (fun i hi => h i (by omega)) (by omega), h j (by omega), lN_sub (by omega), Nat.sub_sub]
theorem crl_eq {n k t : Nat} {r : Nat → Nat} (hn : 0 < n) (hs : sm n r ≤ 12) (ht : t ≤ 9) : 144 - sm n (crr n k t r) = crl n k t r := by
  have e : sm n (crr n k t r) = sm n (pln n k r) * (12 - t) := sm_mul
  rw [e, pln_sum hn hs]
  unfold crl
  split
  · omega
  · have h1 := Nat.sub_mul 12 (sm n r) (12 - t)
    have h2 : sm n r * (12 - t) ≤ 12 * (12 - t) := Nat.mul_le_mul_right _ hs
    omega
theorem q_carries {σ τ : zSt} (h : Inv σ τ) (x y z u : Int32) : ∃ r σ', fX10_carries σ x y z u = some (r, σ') ∧ fX11_carries τ x y z u = some r ∧ Inv σ' τ := by
  have h9 := h
  obtain ⟨n, T, c, kd, td, v, pl, sp, t, tb, tw, th, ts, tm, hA, hT, hC, hW, hU, hR, hX⟩ := h
  have h6 := hT.2.1
  have hc := hC.1
  unfold fX10_carries fX11_carries
  rw [z_int hC, z_intM hC, z_word hT, z_wordM hT, z_end hT, z_way, z_wayM]
  rcases zIn_c x (m := c) (by omega) with e | ⟨i, hi, rfl, e⟩
  · rw [e, i00, i00]
    exact ⟨_, _, rfl, rfl, h9⟩
  rw [e, i10, i10]
  rcases zIn_c z (m := n) (by omega) with e | ⟨a, ha, rfl, e⟩
  · rw [e, i00, i00]
    exact ⟨_, _, rfl, rfl, h9⟩
  rw [e, i10, i10, z_endM hT (by omega)]
  rcases zIn_c u (m := n + 1) (by omega) with e | ⟨b, hb, rfl, e⟩
  · rw [e, i00, i00]
    exact ⟨_, _, rfl, rfl, h9⟩
  rw [e, i10, i10]
  rcases zIn_c y (m := 2) (by omega) with e | ⟨w, hw, rfl, e⟩
  · rw [e, i00, i00]
    exact ⟨_, _, rfl, rfl, h9⟩
  rw [e, i10, i10]
  obtain ⟨s1, p1, p2, p3⟩ := c_begin hR h6 ha
  have hC1 := p3.toC hC
  obtain ⟨g1, g2, g3, g4, g5, g6⟩ := hC1.2.2.2 i hi
  obtain ⟨s2, q1, q2, q3⟩ := c_hand (p3.toT hT) p2 hw g1 g2
  have hT2 := q3.toT (p3.toT hT)
  rw [p1, Option.bind_some, zrI_n (n := 4) (by decide) (by omega), Option.bind_some, zrI_n (n := 4) (by decide) (by omega), Option.bind_some, g3, g5, q1, Option.bind_some, hT2.2.2.1, c_timesAs q2 h6 (by omega), Option.bind_some]
  have hs := hT.sums hw ha
  by_cases e : b = n
  · subst e
    rw [if_pos rfl, m_carriedL hT hC hi hw ha, Option.bind_some]
    have := sbf_lN (D := fun b_1 => chf (fun a b' => crr b (kd i) (td i) (T w a) b') (fun k => if k = a then 1 else 0) b_1 b) (f := crr b (kd i) (td i) (T w a)) (W := 144) b (fun j hj => by rw [chf_ind, if_pos ha]) (crr_sum (by omega) hs)
    rw [show (1 : Int64) * 144 = lN 144 from rfl, this, crl_eq (by omega) hs g2, lN_i]
    exact ⟨_, _, rfl, rfl, h9.chain (q3.trans p3) q2 rfl⟩
  · rw [if_neg e, m_carried hT hC hi hw ha (by omega), Option.bind_some, chf_ind, if_pos ha, lN_i]
    exact ⟨_, _, rfl, rfl, h9.chain (q3.trans p3) q2 rfl⟩
theorem q_returns {σ τ : zSt} (h : Inv σ τ) (x y z : Int32) : ∃ r σ', fX10_returns σ x y z = some (r, σ') ∧ fX11_returns τ x y z = some r ∧ Inv σ' τ := by
  have h9 := h
  obtain ⟨n, T, c, kd, td, v, pl, sp, t, tb, tw, th, ts, tm, hA, hT, hC, hW, hU, hR, hX⟩ := h
  have h6 := hT.2.1
  have hc := hC.1
  unfold fX10_returns fX11_returns
  rw [z_int hC, z_intM hC, z_word hT, z_wordM hT, z_way, z_wayM]
  rcases zIn_c x (m := c) (by omega) with e | ⟨i, hi, rfl, e⟩
  · rw [e, i00, i00]
    exact ⟨_, _, rfl, rfl, h9⟩
  rw [e, i10, i10]
  rcases zIn_c z (m := n) (by omega) with e | ⟨a, ha, rfl, e⟩
  · rw [e, i00, i00]
    exact ⟨_, _, rfl, rfl, h9⟩
  rw [e, i10, i10]
  rcases zIn_c y (m := 2) (by omega) with e | ⟨w, hw, rfl, e⟩
  · rw [e, i00, i00]
    exact ⟨_, _, rfl, rfl, h9⟩
  rw [e, i10, i10]
  obtain ⟨s1, p1, p2, p3⟩ := c_begin hR h6 ha
  have hC1 := p3.toC hC
  obtain ⟨g1, g2, g3, -, g5, -⟩ := hC1.2.2.2 i hi
  obtain ⟨s2, q1, q2, q3⟩ := c_hand (p3.toT hT) p2 hw g1 g2
  have hT2 := q3.toT (p3.toT hT)
  have hC2 := q3.toC hC1
  obtain ⟨-, -, k3, -, k5, -⟩ := hC2.2.2.2 i hi
  have ow : fX10_otherWay (nI w) = nI (1 - w) := by
    rcases (show w = 0 ∨ w = 1 by omega) with rfl | rfl <;> rfl
  have mw : (1 : Int32) - nI w = nI (1 - w) := by
    rcases (show w = 0 ∨ w = 1 by omega) with rfl | rfl <;> rfl
  obtain ⟨s3, r1, r2, r3⟩ := c_hand hT2 q2 (y := 1 - w) (by omega) g1 g2
  have hT3 := r3.toT hT2
  rw [p1, Option.bind_some, zrI_n (n := 4) (by decide) (by omega), Option.bind_some, zrI_n (n := 4) (by decide) (by omega), Option.bind_some, g3, g5, q1, Option.bind_some, zrI_n (n := 4) (by decide) (by omega), Option.bind_some, zrI_n (n := 4) (by decide) (by omega), Option.bind_some, k3, k5, ow, r1, Option.bind_some, hT3.2.2.1]
  have hs := hT.sums hw ha
  have dv : ∀ b, b < n → chf (fun a b => crr n (kd i) (td i) (T (1 - w) a) b) (fun b => chf (fun a b => crr n (kd i) (td i) (T w a) b) (fun k => if k = a then 1 else 0) b n) b n = lN (sm n (fun j => crr n (kd i) (td i) (T w a) j * crr n (kd i) (td i) (T (1 - w) j) b)) := fun b hb => chf_lN n (fun j hj => by rw [chf_ind, if_pos ha])
  have bd : ∀ b, b < n → sm n (fun j => crr n (kd i) (td i) (T w a) j * crr n (kd i) (td i) (T (1 - w) j) b) ≤ 20736 := fun b hb => by
    have e1 : sm n (fun j => crr n (kd i) (td i) (T w a) j * crr n (kd i) (td i) (T (1 - w) j) b) ≤ sm n (fun j => crr n (kd i) (td i) (T w a) j * 144) := sm_le (fun j hj => Nat.mul_le_mul_left _ (crr_le hb (hT.sums (by omega) hj)))
    rw [sm_mul] at e1
    have := crr_sum (n := n) (k := kd i) (t := td i) (by omega) hs
    omega
  generalize hf : (fun b => sm n (fun j => crr n (kd i) (td i) (T w a) j * crr n (kd i) (td i) (T (1 - w) j) b)) = f at *
  have hfb : ∀ b, sm n (fun j => crr n (kd i) (td i) (T w a) j * crr n (kd i) (td i) (T (1 - w) j) b) = f b := fun b => by rw [← hf]
  obtain ⟨P, Q, e, h1, h2, hp, hw2⟩ := r2
  have kp : zkJ 0 P 6 := by rcases e with e | e <;> rw [e.1] <;> decide
  have hp : ∀ b, b < n → zJ s3 P b = lN (f b) := fun b hb => (hp b hb).trans ((dv b hb).trans (by rw [hfb]))
  have fb : ∀ b, b < n → f b ≤ 20736 := fun b hb => by rw [← hfb]; exact bd b hb
  unfold fX1_likeliest
  rw [zl_run (body := fun s : Int32 × Int32 => bX1_likeliest_4 s3 (nI n) s.1 s.2) (a := ((0 : Int32), (1 : Int32))) (fun j => (nI (amx (j + 1) f), nI (j + 1))) (n - 1) (b := (nI (amx (n - 1 + 1) f), nI (n - 1 + 1))) (by show (nI (amx 1 f), nI 1) = _; rw [amx_1]; rfl) ?_ ?_ (by omega)]
  · have ml : ∀ b, b < n → ∀ X Y : Int32, zLp (fun s : Int32 × Int32 => bX11_returns_52 τ (nI i) (nI w) (nI a) X Y (nI b) s.1 s.2) zFU ((0 : Int32), (0 : Int32)) = some (nI (f b), nI n) := by
      intro b hb X Y
      rw [← hfb]
      refine zl_run (fun m => (nI (sm m (fun j => crr n (kd i) (td i) (T w a) j * crr n (kd i) (td i) (T (1 - w) j) b)), nI m)) n rfl (fun j hj => ?_) ?_ (by omega)
      · show bX11_returns_52 τ (nI i) (nI w) (nI a) X Y (nI b) _ (nI j) = _
        unfold bX11_returns_52
        rw [hT.2.2.2.1, i_nle hj (by omega), m_carried hT hC hi hw ha hj, Option.bind_some, mw, m_carried hT hC hi (by omega) hj hb, Option.bind_some, pk_mul, nI_add, nI_1]
        rfl
      · show bX11_returns_52 τ (nI i) (nI w) (nI a) X Y (nI b) _ (nI n) = _
        unfold bX11_returns_52
        rw [hT.2.2.2.1, i_le (Nat.le_refl _) (by omega)]
    rw [zl_run (body := fun s : Int32 × Int32 × Int32 => bX11_returns_37 τ (nI i) (nI w) (nI a) s.1 s.2.1 s.2.2) (a := ((0 : Int32), (-1 : Int32), (0 : Int32))) (fun j => (nI (amx j f), (if j = 0 then -1 else nI (f (amx j f))), nI j)) n (b := (nI (amx n f), (if n = 0 then -1 else nI (f (amx n f))), nI n)) rfl ?_ ?_ (by omega)]
    · rw [show n - 1 + 1 = n by omega]
      exact ⟨_, _, rfl, rfl, h9.chain (r3.trans (q3.trans p3)) ⟨P, Q, e, h1, h2, fun k hk => hp k hk, hw2⟩ rfl⟩
    · intro j hj
      show bX11_returns_37 τ (nI i) (nI w) (nI a) (nI (amx j f)) _ (nI j) = _
      unfold bX11_returns_37
      rw [hT.2.2.2.1, i_nle hj (by omega), ml j hj _ _, Option.bind_some, nI_1]
      have st : amx (j + 1) f = if f (amx j f) < f j then j else amx j f := rfl
      have b1 := fb j hj
      by_cases j0 : j = 0
      · subst j0
        rw [if_pos rfl, amx_1]
        show (if nI (f 0) ≤ (-1 : Int32) then _ else _) = _
        rw [if_neg (fun q => absurd (Int32.lt_of_le_of_lt q (by decide)) (nI_pos (n := f 0) (by omega)))]
        rfl
      · rw [if_neg j0, if_neg (show ¬ j + 1 = 0 by omega), st]
        have b2 := fb (amx j f) (by have := amx_lt (n := j) (f := f) (by omega); omega)
        by_cases q : f (amx j f) < f j
        · rw [if_pos q]
          show (if nI (f j) ≤ nI (f (amx j f)) then _ else _) = _
          rw [i_nle q (by omega)]
        · rw [if_neg q]
          show (if nI (f j) ≤ nI (f (amx j f)) then _ else _) = _
          rw [i_le (by omega) (by omega)]
    · show bX11_returns_37 τ (nI i) (nI w) (nI a) (nI (amx n f)) _ (nI n) = _
      unfold bX11_returns_37
      rw [hT.2.2.2.1, i_le (Nat.le_refl _) (by omega)]
  · intro j hj
    show bX1_likeliest_4 s3 (nI n) (nI (amx (j + 1) f)) (nI (j + 1)) = _
    unfold bX1_likeliest_4
    have al := amx_lt (n := j + 1) (f := f) (by omega)
    have st : amx (j + 1 + 1) f = if f (amx (j + 1) f) < f (j + 1) then j + 1 else amx (j + 1) f := rfl
    have b1 := fb (j + 1) (by omega)
    have b2 := fb (amx (j + 1) f) (by omega)
    rw [i_nle (by omega) (by omega), h1, zrJ_n kp (by omega), Option.bind_some, zrJ_n kp (by omega), Option.bind_some, hp _ (by omega), hp _ (by omega), nI_1, st]
    by_cases q : f (amx (j + 1) f) < f (j + 1)
    · rw [if_pos q, if_neg (fun l => absurd ((pk_lLE (by omega) (by omega)).mp l) (by omega))]
    · rw [if_neg q, if_pos ((pk_lLE (by omega) (by omega)).mpr (by omega))]
  · show bX1_likeliest_4 s3 (nI n) _ (nI (n - 1 + 1)) = _
    unfold bX1_likeliest_4
    rw [i_le (by omega) (by omega)]
end HANDS
