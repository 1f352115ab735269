/-! TONGUES: what both systems read off their tables -/
theorem sm_mono {n i : Nat} {f : Nat → Nat} (h : i ≤ n) : sm i f ≤ sm n f := by
  induction n with
  | zero =>
    have e : i = 0 := by omega
    subst e
    exact Nat.le_refl _
  | succ n ih =>
    by_cases e : i = n + 1
    · subst e
      exact Nat.le_refl _
    · have := ih (by omega)
      rw [sm]
      omega
theorem m_lacks {τ : zSt} {j N p n : Nat} {r : Nat → Nat} (hj : zkI 1 j N) (hN : N ≤ 20000) (hp : p + n ≤ N) (hn : n < 1000) (hr : ∀ b, b < n → zI τ j (p + b) = nI (r b)) (hs : sm n r ≤ 12) : fX11_lacks τ j (nI p) (nI n) = some (nI (12 - sm n r)) := by
  unfold fX11_lacks
  rw [zl_run (a := ((12 : Int32), (0 : Int32))) (fun i => (nI (12 - sm i r), nI i)) n (b := (nI (12 - sm n r), nI n)) rfl ?_ ?_ hn]
  · rfl
  · intro i hi
    show bX11_lacks_6 τ j (nI p) (nI n) (nI (12 - sm i r)) (nI i) = _
    unfold bX11_lacks_6
    have h1 : sm (i + 1) r ≤ sm n r := sm_mono (by omega)
    have h2 : sm (i + 1) r = sm i r + r i := rfl
    rw [i_nle hi (by omega), nI_add, zrI_n hj (by omega) hN, Option.bind_some, hr i hi, pk_sub (by omega), nI_1, Nat.sub_sub]
    rfl
  · show bX11_lacks_6 τ j (nI p) (nI n) (nI (12 - sm n r)) (nI n) = _
    unfold bX11_lacks_6
    rw [i_le (Nat.le_refl _) (by omega)]
theorem rowOf_n (w a : Nat) : fX11_rowOf (nI w) (nI a) = nI (36 * w + 6 * a) := by
  unfold fX11_rowOf
  rw [show (36 : Int32) = nI 36 from rfl, show (6 : Int32) = nI 6 from rfl, pk_mul, pk_mul, nI_add]
theorem m_meantBy {σ τ : zSt} {n : Nat} {T : Nat → Nat → Nat → Nat} (hT : pT σ τ n T) {w a : Nat} (hw : w < 2) (ha : a < n) : fX11_meantBy τ (nI w) (nI a) = some (nI (amx n (T w a))) := by
  obtain ⟨h0, h6, h3, h5, hr⟩ := hT
  obtain ⟨ok, hrow, -, -⟩ := hr w hw a ha
  unfold fX11_meantBy
  have rd : ∀ b, b < n → zrI 1 τ 4 (fX11_rowOf (nI w) (nI a) + nI b) = some (nI (T w a b)) := fun b hb => by
    rw [rowOf_n, nI_add, zrI_n (n := 72) (by decide) (by omega), (hrow b hb).2]
  rw [zl_run (a := ((0 : Int32), (1 : Int32))) (fun i => (nI (amx (i + 1) (T w a)), nI (i + 1))) (n - 1) (b := (nI (amx n (T w a)), nI n)) (by rw [amx_1]; rfl) ?_ ?_ (by omega)]
  · rfl
  · intro i hi
    show bX11_meantBy_5 τ (nI w) (nI a) (nI (amx (i + 1) (T w a))) (nI (i + 1)) = _
    unfold bX11_meantBy_5
    have hl := amx_lt (n := i + 1) (f := T w a) (by omega)
    have b1 := ok.1 (i + 1) (by omega)
    have b2 := ok.1 (amx (i + 1) (T w a)) (by omega)
    rw [h5, i_nle (by omega) (by omega), rd _ (by omega), rd _ (by omega), Option.bind_some, Option.bind_some, nI_1]
    have e : amx (i + 1 + 1) (T w a) = if T w a (amx (i + 1) (T w a)) < T w a (i + 1) then i + 1 else amx (i + 1) (T w a) := rfl
    rw [e]
    by_cases q : T w a (i + 1) ≤ T w a (amx (i + 1) (T w a))
    · rw [i_le q (by omega), if_neg (by omega)]
    · rw [i_nle (by omega) (by omega), if_pos (by omega)]
  · show bX11_meantBy_5 τ (nI w) (nI a) (nI (amx (n - 1 + 1) (T w a))) (nI (n - 1 + 1)) = _
    unfold bX11_meantBy_5
    rw [show n - 1 + 1 = n by omega, h5, i_le (Nat.le_refl _) (by omega)]
theorem c_meaning {σ τ : zSt} {n : Nat} {T : Nat → Nat → Nat → Nat} (hT : pT σ τ n T) {w a : Nat} (hw : w < 2) (ha : a < n) : fX8_meaning σ (nI w) (nI a) = some (nI (amx n (T w a))) := by
  obtain ⟨h0, h6, h3, h5, hr⟩ := hT
  obtain ⟨ok, hrow, -, hm⟩ := hr w hw a ha
  unfold fX8_meaning
  rw [show (6 : Int32) = nI 6 from rfl, pk_mul, nI_add, zrI_n (n := 12) (by decide) (by omega), Option.bind_some, show w * 6 + a = 6 * w + a by omega, hm]
theorem q_becomes {σ τ : zSt} (h : Inv σ τ) (x y z : Int32) : ∃ r, fX10_becomes σ x y z = some r ∧ fX11_becomes τ x y z = some r := by
  obtain ⟨n, T, c, kd, td, v, pl, sp, t, tb, tw, th, ts, tm, hA, hT, hC, hW, hU, hR, hX⟩ := h
  have h6 := hT.2.1
  unfold fX10_becomes fX11_becomes
  rw [z_word hT, z_wordM hT, z_end hT, z_way, z_wayM]
  rcases zIn_c y (m := n) (by omega) with e | ⟨a, ha, rfl, e⟩
  · rw [e, i00, i00]
    exact ⟨_, rfl, rfl⟩
  rw [e, i10, i10, z_endM hT (by omega)]
  rcases zIn_c z (m := n + 1) (by omega) with e | ⟨b, hb, rfl, e⟩
  · rw [e, i00, i00]
    exact ⟨_, rfl, rfl⟩
  rw [e, i10, i10]
  rcases zIn_c x (m := 2) (by omega) with e | ⟨w, hw, rfl, e⟩
  · rw [e, i00, i00]
    exact ⟨_, rfl, rfl⟩
  obtain ⟨ok, hrow, hl, hm⟩ := hT.2.2.2.2 w hw a ha
  rw [e, i10, i10, hT.2.2.2.1]
  unfold fX8_twelfths
  rw [show (6 : Int32) = nI 6 from rfl, pk_mul, nI_add, zrA_n (n := 12) (by decide) (by omega), Option.bind_some, show 32 + 1 + (w * 6 + a) = 33 + (6 * w + a) by omega, zrI_n (zkTold _ (by omega)) (by omega), rowOf_n]
  by_cases q : b = n
  · subst q
    rw [i_eq rfl, m_lacks (N := 72) (r := T w a) (by decide) (by decide) (by omega) (by omega) (fun k hk => (hrow k hk).2) ok.2.2, hl]
    exact ⟨_, rfl, rfl⟩
  · rw [i_ne q (by omega) (by omega), nI_add, zrI_n (n := 72) (by decide) (by omega), (hrow b (by omega)).1, (hrow b (by omega)).2]
    exact ⟨_, rfl, rfl⟩
theorem q_meant {σ τ : zSt} (h : Inv σ τ) (x y : Int32) : ∃ r, fX10_meant σ x y = some r ∧ fX11_meant τ x y = some r := by
  obtain ⟨n, T, c, kd, td, v, pl, sp, t, tb, tw, th, ts, tm, hA, hT, hC, hW, hU, hR, hX⟩ := h
  have h6 := hT.2.1
  unfold fX10_meant fX11_meant
  rw [z_word hT, z_wordM hT, z_way, z_wayM]
  rcases zIn_c y (m := n) (by omega) with e | ⟨a, ha, rfl, e⟩
  · rw [e, i00, i00]
    exact ⟨_, rfl, rfl⟩
  rw [e, i10, i10]
  rcases zIn_c x (m := 2) (by omega) with e | ⟨w, hw, rfl, e⟩
  · rw [e, i00, i00]
    exact ⟨_, rfl, rfl⟩
  rw [e, i10, i10, c_meaning hT hw ha, m_meantBy hT hw ha]
  exact ⟨_, rfl, rfl⟩
/-- the set of those by which the same is meant, of the first i -/
def alk (n : Nat) (T : Nat → Nat → Nat → Nat) (w a : Nat) : Nat → Int32
  | 0 => 0
  | i + 1 => if i = a then alk n T w a i else if amx n (T w i) = amx n (T w a) then alk n T w a i ||| ((1 : Int32) <<< (nI i &&& 31)) else alk n T w a i
theorem q_alike {σ τ : zSt} (h : Inv σ τ) (x y : Int32) : ∃ r, fX10_alike σ x y = some r ∧ fX11_alike τ x y = some r := by
  obtain ⟨n, T, c, kd, td, v, pl, sp, t, tb, tw, th, ts, tm, hA, hT, hC, hW, hU, hR, hX⟩ := h
  have h6 := hT.2.1
  unfold fX10_alike fX11_alike
  rw [z_word hT, z_wordM hT, z_way, z_wayM]
  rcases zIn_c y (m := n) (by omega) with e | ⟨a, ha, rfl, e⟩
  · rw [e, i00, i00]
    exact ⟨_, rfl, rfl⟩
  rw [e, i10, i10]
  rcases zIn_c x (m := 2) (by omega) with e | ⟨w, hw, rfl, e⟩
  · rw [e, i00, i00]
    exact ⟨_, rfl, rfl⟩
  rw [e, i10, i10]
  unfold fX8_sameMeaning
  have hb : ∀ i, i < n → amx n (T w i) < n := fun i hi => amx_lt (by omega)
  have stp : ∀ i, alk n T w a (i + 1) = if i = a then alk n T w a i else if amx n (T w i) = amx n (T w a) then alk n T w a i ||| ((1 : Int32) <<< (nI i &&& 31)) else alk n T w a i := fun i => rfl
  rw [zl_run (body := fun s : Int32 × Int32 => bX8_sameMeaning_5 σ (nI w) (nI a) s.1 s.2) (a := ((0 : Int32), (0 : Int32))) (fun i => (alk n T w a i, nI i)) n (b := (alk n T w a n, nI n)) rfl ?_ ?_ (by omega), zl_run (body := fun s : Int32 × Int32 => bX11_alike_25 τ (nI w) (nI a) s.1 s.2) (a := ((0 : Int32), (0 : Int32))) (fun i => (alk n T w a i, nI i)) n (b := (alk n T w a n, nI n)) rfl ?_ ?_ (by omega)]
  · exact ⟨_, rfl, rfl⟩
  · intro i hi
    show bX11_alike_25 τ (nI w) (nI a) (alk n T w a i) (nI i) = _
    unfold bX11_alike_25
    rw [hT.2.2.2.1, i_nle hi (by omega), m_meantBy hT hw hi, m_meantBy hT hw ha, Option.bind_some, Option.bind_some, Int32.or_zero, nI_1, stp]
    by_cases q : i = a
    · rw [i_eq q, if_pos q]
    · rw [i_ne q (by omega) (by omega), if_neg q]
      have := hb i hi
      have := hb a ha
      by_cases q2 : amx n (T w i) = amx n (T w a)
      · rw [i_eq q2, if_pos q2]
      · rw [i_ne q2 (by omega) (by omega), if_neg q2]
  · show bX11_alike_25 τ (nI w) (nI a) (alk n T w a n) (nI n) = _
    unfold bX11_alike_25
    rw [hT.2.2.2.1, i_le (Nat.le_refl _) (by omega)]
  · intro i hi
    show bX8_sameMeaning_5 σ (nI w) (nI a) (alk n T w a i) (nI i) = _
    unfold bX8_sameMeaning_5
    rw [hT.2.2.1, i_nle hi (by omega), c_meaning hT hw hi, c_meaning hT hw ha, Option.bind_some, Option.bind_some, nI_1, stp]
    by_cases q : i = a
    · rw [i_eq q, if_pos q]
    · rw [i_ne q (by omega) (by omega), if_neg q]
      have := hb i hi
      have := hb a ha
      by_cases q2 : amx n (T w i) = amx n (T w a)
      · rw [i_eq q2, if_pos q2]
      · rw [i_ne q2 (by omega) (by omega), if_neg q2]
  · show bX8_sameMeaning_5 σ (nI w) (nI a) (alk n T w a n) (nI n) = _
    unfold bX8_sameMeaning_5
    rw [hT.2.2.1, i_le (Nat.le_refl _) (by omega)]
theorem m_answered {σ τ : zSt} {n v pl : Nat} {sp : Nat → Nat → Nat} {T : Nat → Nat → Nat → Nat} (hT : pT σ τ n T) (hW : pW σ τ n v pl sp) (hv : v = 1) {a b : Nat} (ha : a < n) (hb : b < n) : fX11_answered τ (nI a) (nI b) = some (nI (ans pl sp a b)) := by
  obtain ⟨h1, h2, h3, h4, h5, h7, h8⟩ := hW
  obtain ⟨ok, hrow, -⟩ := (h8 hv).2 a ha
  have h6 := hT.2.1
  unfold fX11_answered ans
  rw [hT.2.2.2.1, h7, i_ne (by omega) (by omega) (by omega), show (6 : Int32) = nI 6 from rfl, show (12 : Int32) = nI 12 from rfl, pk_mul, nI_add, zrI_n (n := 36) (by decide) (by omega), Option.bind_some, (hrow b hb).1, pk_sub (by omega), pk_mul, pk_mul, nI_add]
  by_cases q : b = 0
  · subst q
    rw [if_pos rfl]
    exact if_pos rfl
  · rw [show (0 : Int32) = nI 0 from rfl, i_ne q (by omega) (by omega), if_neg q, Nat.add_zero]
theorem q_answers {σ τ : zSt} (h : Inv σ τ) (x y : Int32) : ∃ r, fX10_answers σ x y = some r ∧ fX11_answers τ x y = some r := by
  obtain ⟨n, T, c, kd, td, v, pl, sp, t, tb, tw, th, ts, tm, hA, hT, hC, hW, hU, hR, hX⟩ := h
  have h6 := hT.2.1
  unfold fX10_answers fX11_answers
  rw [z_word hT, z_wordM hT, z_end hT]
  rcases zIn_c x (m := n) (by omega) with e | ⟨a, ha, rfl, e⟩
  · rw [e, i00, i00]
    exact ⟨_, rfl, rfl⟩
  rw [e, i10, i10, z_endM hT (by omega)]
  rcases zIn_c y (m := n + 1) (by omega) with e | ⟨b, hb, rfl, e⟩
  · rw [e, i00, i00]
    exact ⟨_, rfl, rfl⟩
  have hv := hW.1
  rw [e, i10, i10, hW.2.2.1, hW.2.2.2.1]
  rcases (show v = 0 ∨ v = 1 by omega) with rfl | rfl
  · rw [show nI 0 = (0 : Int32) from rfl, i00, i00]
    exact ⟨_, rfl, rfl⟩
  · obtain ⟨ok, hrow, hl⟩ := (hW.2.2.2.2.2.2 rfl).2 a ha
    rw [show nI 1 = (1 : Int32) from rfl, i10, i10, zrA_n (n := 6) (by decide) (by omega), Option.bind_some, show 48 + 1 + a = 49 + a by omega, zrI_n (zkTimes _ (by omega)) (by omega), Option.bind_some]
    by_cases q : b = n
    · subst q
      have hp := hW.2.1
      unfold fX11_answered
      rw [hT.2.2.2.1, hW.2.2.2.2.2.1, i_eq rfl, show (6 : Int32) = nI 6 from rfl, show (12 : Int32) = nI 12 from rfl, pk_mul, m_lacks (N := 36) (r := sp a) (by decide) (by decide) (by omega) (by omega) (fun k hk => (hrow k hk).1) ok.2.2, Option.bind_some, pk_sub (by omega), pk_mul, hl]
      exact ⟨_, rfl, rfl⟩
    · rw [m_answered hT hW rfl ha (by omega), (hrow b (by omega)).2]
      exact ⟨_, rfl, rfl⟩
