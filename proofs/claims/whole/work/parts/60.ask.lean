/-! HEARD, REACHED, SAID, OVER, ASK -/
theorem Inv.hear {σ τ σ' : zSt} (h : Inv σ τ) (e : ∀ c p, ¬ (56 ≤ c ∧ c ≤ 68) → zI σ' c p = zI σ c p) (e2 : σ'.2 = σ.2) : Inv σ' τ := by
  refine h.mv (fun c k hc => e c k (by unfold zcoC at hc; omega)) (fun _ _ _ => rfl) ?_ ?_
  · obtain ⟨n, T, c, kd, td, v, pl, sp, t, tb, tw, th, ts, tm, hA, hT, hC, hW, hU, hR, hX⟩ := h
    rw [e 0 10 (by omega)]
    exact hX.1
  · obtain ⟨n, T, c, kd, td, v, pl, sp, t, tb, tw, th, ts, tm, hA, hT, hC, hW, hU, hR, hX⟩ := h
    have r : ∀ c p, zR σ' c p = zR σ c p := fun c p => by unfold zR; rw [e2]
    exact hR.mv (r _ _) (r _ _) (r _ _) (r _ _) (e _ _ (by omega)) (by unfold zJ; rw [e2])
theorem c_ready {σ τ : zSt} (h : Inv σ τ) {n : Nat} {T : Nat → Nat → Nat → Nat} {c : Nat} {kd td : Nat → Nat} {pl : Nat} {sp : Nat → Nat → Nat} (hT : pT σ τ n T) (hC : pC σ τ c kd td) (hW : pW σ τ n 1 pl sp) {x : Nat} (hx : x < c) : ∃ σ', (∀ {α : Type} (f : zSt → Option α), ((zrI 0 σ 46 (nI x)).bind fun v6 => (zrI 0 σ 47 (nI x)).bind fun v8 => (fX3_through σ v6 v8).bind f) = f σ') ∧ pT σ' τ n T ∧ pHr σ' n T pl sp (kd x) (td x) ∧ Inv σ' τ := by
  have hc := hC.1
  obtain ⟨g1, g2, g3, g4, g5, g6⟩ := hC.2.2.2 x hx
  obtain ⟨σ', q1, q2, q3, q4⟩ := c_through hT g1 g2
  have hT' : pT σ' τ n T := hT.mv (q3 _ _ (by omega)) (fun c p h1 h2 => q3 c p (by omega)) rfl (fun _ => rfl)
  refine ⟨σ', fun f => ?_, hT', ⟨hT.2.1, hT'.2.2.1, q2, fun r hr q hq => ?_⟩, h.hear q3 q4⟩
  · rw [zrI_n (n := 4) (by decide) (by omega), zrI_n (n := 4) (by decide) (by omega), g3, g5, Option.bind_some, Option.bind_some, q1, Option.bind_some]
  · have h6 := hT.2.1
    rw [q3 _ _ (by omega)]
    exact (((hW.2.2.2.2.2.2 rfl).2 r hr).2.1 q hq).2
theorem z_l0 {x : Int32} (h : ¬ x = 0) : ¬ x.toInt64 = 0 := fun q => h (by
  have := congrArg Int64.toInt32 q
  simpa using this)
theorem q_heard {σ τ : zSt} (h : Inv σ τ) (x y z u : Int32) : ∃ r σ', fX10_heard σ x y z u = some (r, σ') ∧ fX11_heard τ x y z u = some r ∧ Inv σ' τ := by
  have h9 := h
  obtain ⟨n, T, c, kd, td, v, pl, sp, t, tb, tw, th, ts, tm, hA, hT, hC, hW, hU, hR, hX⟩ := h
  have h6 := hT.2.1
  have hc := hC.1
  have hv := hW.1
  unfold fX10_heard fX11_heard
  generalize (-9223372036854775808 : Int64) = lost
  rw [z_int hC, z_intM hC, z_word hT, z_wordM hT, z_end hT, z_which, z_whichM]
  rcases zIn_c x (m := c) (by omega) with e | ⟨i, hi, rfl, e⟩
  · rw [e, i00, i00]
    exact ⟨_, _, rfl, rfl, h9⟩
  rw [e, i10, i10]
  rcases zIn_c y (m := n) (by omega) with e | ⟨a, ha, rfl, e⟩
  · rw [e, i00, i00]
    exact ⟨_, _, rfl, rfl, h9⟩
  rw [e, i10, i10, z_endM hT (by omega)]
  rcases zIn_c z (m := n + 1) (by omega) with e | ⟨b, hb, rfl, e⟩
  · rw [e, i00, i00]
    exact ⟨_, _, rfl, rfl, h9⟩
  rw [e, i10, i10]
  rcases zIn_c u (m := 2) (by omega) with e | ⟨w, hw, rfl, e⟩
  · rw [e, i00, i00]
    exact ⟨_, _, rfl, rfl, h9⟩
  rw [e, i10, i10, hW.2.2.1, hW.2.2.2.1]
  rcases (show v = 0 ∨ v = 1 by omega) with rfl | rfl
  · rw [show nI 0 = (0 : Int32) from rfl, i00, i00]
    exact ⟨_, _, rfl, rfl, h9⟩
  rw [show nI 1 = (1 : Int32) from rfl, i10, i10]
  obtain ⟨σ', q1, q2, q3, q4⟩ := c_ready h9 hT hC hW hi
  rw [q1, q2.2.2.1, hT.2.2.2.1]
  have lp : zLp (fun s : Int32 × Int32 => bX11_heard_50 τ (nI i) (nI a) (nI b) (nI w) s.1 s.2) zFU ((2985984 : Int32), (0 : Int32)) = some (lft n T pl sp (kd i) (td i) a n, nI n) := by
    refine zl_run (fun j => (lft n T pl sp (kd i) (td i) a j, nI j)) n rfl (fun j hj => ?_) ?_ (by omega)
    · show bX11_heard_50 τ (nI i) (nI a) (nI b) (nI w) _ (nI j) = _
      unfold bX11_heard_50
      rw [hT.2.2.2.1, i_nle hj (by omega), m_timesA hT hC hW hi ha hj, Option.bind_some, nI_1]
      rfl
    · show bX11_heard_50 τ (nI i) (nI a) (nI b) (nI w) _ (nI n) = _
      unfold bX11_heard_50
      rw [hT.2.2.2.1, i_le (Nat.le_refl _) (by omega)]
  rw [lp, Option.bind_some]
  by_cases q : b = n
  · rw [i_eq q, i_eq q, c_nothing q3 ha, Option.bind_some]
    obtain ⟨r, r1, r2⟩ := q_share (lft n T pl sp (kd i) (td i) a n).toInt64 2985984 (nI w) (by decide)
    rw [r1, r2]
    exact ⟨_, _, rfl, rfl, q4⟩
  · rw [i_ne q (by omega) (by omega), i_ne q (by omega) (by omega), c_heardTimes q3 ha (by omega), m_timesA hT hC hW hi ha (by omega), Option.bind_some, Option.bind_some]
    obtain ⟨r, r1, r2⟩ := q_share (nI (tms n T pl sp (kd i) (td i) a b (fun _ => true) (fun _ => true))).toInt64 2985984 (nI w) (by decide)
    rw [r1, r2]
    exact ⟨_, _, rfl, rfl, q4⟩
/-- where the three calls that ask after something heard refuse -/
theorem q_asked {σ τ : zSt} {n : Nat} {T : Nat → Nat → Nat → Nat} {c : Nat} {kd td : Nat → Nat} {v pl : Nat} {sp : Nat → Nat → Nat} (hT : pT σ τ n T) (hC : pC σ τ c kd td) (hW : pW σ τ n v pl sp) (x y z u : Int32) : (fX10_refusesHeard σ x y z u = 1 ∧ (fX11_isAsked τ x y z = 0 ∨ (fX11_isAsked τ x y z = 1 ∧ (fX11_isWhich u = 0 ∨ (fX11_isWhich u = 1 ∧ zI τ 0 16 = 0))))) ∨ (v = 1 ∧ fX10_refusesHeard σ x y z u = 0 ∧ fX11_isAsked τ x y z = 1 ∧ fX11_isWhich u = 1 ∧ zI τ 0 16 = 1 ∧ ∃ i a b, i < c ∧ a < n ∧ b < n ∧ x = nI i ∧ y = nI a ∧ z = nI b) := by
  have h6 := hT.2.1
  have hc := hC.1
  have hv := hW.1
  unfold fX10_refusesHeard fX11_isAsked
  rw [z_int hC, z_intM hC, z_word hT, z_wordM hT, z_word hT, z_wordM hT, z_which, z_whichM, hW.2.2.1, hW.2.2.2.1]
  rcases zIn_c x (m := c) (by omega) with e | ⟨i, hi, rfl, e⟩
  · rw [e, i00, i00]
    exact Or.inl ⟨rfl, Or.inl rfl⟩
  rw [e, i10, i10]
  rcases zIn_c y (m := n) (by omega) with e | ⟨a, ha, rfl, e⟩
  · rw [e, i00, i00]
    exact Or.inl ⟨rfl, Or.inl rfl⟩
  rw [e, i10, i10]
  rcases zIn_c z (m := n) (by omega) with e | ⟨b, hb, rfl, e⟩
  · rw [e, i00, i00]
    exact Or.inl ⟨rfl, Or.inl rfl⟩
  rw [e, i10, i10]
  rcases zIn_c u (m := 2) (by omega) with e | ⟨w, hw, rfl, e⟩
  · rw [e, i00]
    exact Or.inl ⟨rfl, Or.inr ⟨rfl, Or.inl rfl⟩⟩
  rw [e, i10]
  rcases (show v = 0 ∨ v = 1 by omega) with rfl | rfl
  · rw [show nI 0 = (0 : Int32) from rfl, i00]
    exact Or.inl ⟨rfl, Or.inr ⟨rfl, Or.inr ⟨rfl, rfl⟩⟩⟩
  · rw [show nI 1 = (1 : Int32) from rfl, i10]
    exact Or.inr ⟨rfl, rfl, rfl, rfl, rfl, i, a, b, hi, ha, hb, rfl, rfl, rfl⟩
theorem q_reached {σ τ : zSt} (h : Inv σ τ) (x y z u : Int32) : ∃ r σ', fX10_reached σ x y z u = some (r, σ') ∧ fX11_reached τ x y z u = some r ∧ Inv σ' τ := by
  have h9 := h
  obtain ⟨n, T, c, kd, td, v, pl, sp, t, tb, tw, th, ts, tm, hA, hT, hC, hW, hU, hR, hX⟩ := h
  have h6 := hT.2.1
  unfold fX10_reached fX11_reached
  generalize (-9223372036854775808 : Int64) = lost
  rcases q_asked hT hC hW x y z u with ⟨e1, e2⟩ | ⟨rfl, e1, e2, e3, e4, i, a, b, hi, ha, hb, rfl, rfl, rfl⟩
  · rw [e1, i10]
    rcases e2 with e2 | ⟨e2, e2 | ⟨e3, e2⟩⟩
    · rw [e2, i00]
      exact ⟨_, _, rfl, rfl, h9⟩
    · rw [e2, i00, if_neg (by rw [‹fX11_isAsked τ x y z = 1›]; decide)]
      exact ⟨_, _, rfl, rfl, h9⟩
    · rw [e2, i00, e3, i10, if_neg (by rw [‹fX11_isAsked τ x y z = 1›]; decide)]
      exact ⟨_, _, rfl, rfl, h9⟩
  rw [e1, i00, e2, i10, e3, i10, e4, i10]
  obtain ⟨σ', q1, q2, q3, q4⟩ := c_ready h9 hT hC hW hi
  rw [q1, c_heardTimes q3 ha hb, m_timesA hT hC hW hi ha hb, Option.bind_some, Option.bind_some]
  by_cases z0 : nI (tms n T pl sp (kd i) (td i) a b (fun _ => true) (fun _ => true)) = 0
  · rw [if_pos z0, if_pos z0]
    exact ⟨_, _, rfl, rfl, q4⟩
  · have hm := amx_lt (n := n) (f := T 0 a) (by omega)
    have mb0 := m_meantBy hT (w := 0) (by decide) ha
    rw [show nI 0 = (0 : Int32) from rfl] at mb0
    have lt64 : ∀ i, i < 6 → 2 ^ i < 64 := by decide
    rw [if_neg z0, if_neg z0, c_reachedTimes q2 q3 ha hb, Option.bind_some, mb0, Option.bind_some, sh_n _ (by omega), (m_all hT).1, m_times hT hC hW hi ha hb (lt64 _ (by omega)) (m_all hT).2, Option.bind_some, tms_congr (P' := fun r => r == amx n (T 0 a)) (Q' := fun _ => true) (fun r _ => tb_one _ _) (fun r hr => tb_all hr)]
    obtain ⟨r, r1, r2⟩ := q_share (nI (tms n T pl sp (kd i) (td i) a b (fun r => r == amx n (T 0 a)) (fun _ => true))).toInt64 (nI (tms n T pl sp (kd i) (td i) a b (fun _ => true) (fun _ => true))).toInt64 u (z_l0 z0)
    rw [r1, r2]
    exact ⟨_, _, rfl, rfl, q4⟩
theorem q_said {σ τ : zSt} (h : Inv σ τ) (x y z u : Int32) : ∃ r σ', fX10_said σ x y z u = some (r, σ') ∧ fX11_said τ x y z u = some r ∧ Inv σ' τ := by
  have h9 := h
  obtain ⟨n, T, c, kd, td, v, pl, sp, t, tb, tw, th, ts, tm, hA, hT, hC, hW, hU, hR, hX⟩ := h
  have h6 := hT.2.1
  unfold fX10_said fX11_said
  generalize (-9223372036854775808 : Int64) = lost
  rcases q_asked hT hC hW x y z u with ⟨e1, e2⟩ | ⟨rfl, e1, e2, e3, e4, i, a, b, hi, ha, hb, rfl, rfl, rfl⟩
  · rw [e1, i10]
    rcases e2 with e2 | ⟨e2, e2 | ⟨e3, e2⟩⟩
    · rw [e2, i00]
      exact ⟨_, _, rfl, rfl, h9⟩
    · rw [e2, i00, if_neg (by rw [‹fX11_isAsked τ x y z = 1›]; decide)]
      exact ⟨_, _, rfl, rfl, h9⟩
    · rw [e2, i00, e3, i10, if_neg (by rw [‹fX11_isAsked τ x y z = 1›]; decide)]
      exact ⟨_, _, rfl, rfl, h9⟩
  rw [e1, i00, e2, i10, e3, i10, e4, i10]
  obtain ⟨σ', q1, q2, q3, q4⟩ := c_ready h9 hT hC hW hi
  rw [q1, c_heardTimes q3 ha hb, m_timesA hT hC hW hi ha hb, Option.bind_some, Option.bind_some]
  by_cases z0 : nI (tms n T pl sp (kd i) (td i) a b (fun _ => true) (fun _ => true)) = 0
  · rw [if_pos z0, if_pos z0]
    exact ⟨_, _, rfl, rfl, q4⟩
  · rw [if_neg z0, if_neg z0, c_saidTimes q2 q3 ha hb, Option.bind_some, (m_saidBy hT hb).1, Option.bind_some, m_timesS hT hC hW hi ha hb, Option.bind_some]
    obtain ⟨r, r1, r2⟩ := q_share (nI (tms n T pl sp (kd i) (td i) a b (fun _ => true) (fun q => amx n (T 1 q) == b))).toInt64 (nI (tms n T pl sp (kd i) (td i) a b (fun _ => true) (fun _ => true))).toInt64 u (z_l0 z0)
    rw [r1, r2]
    exact ⟨_, _, rfl, rfl, q4⟩
theorem q_over {σ τ : zSt} (h : Inv σ τ) (x y u : Int32) : ∃ r σ', fX10_over σ x y u = some (r, σ') ∧ fX11_over τ x y u = some r ∧ Inv σ' τ := by
  have h9 := h
  obtain ⟨n, T, c, kd, td, v, pl, sp, t, tb, tw, th, ts, tm, hA, hT, hC, hW, hU, hR, hX⟩ := h
  have h6 := hT.2.1
  have hc := hC.1
  have hv := hW.1
  unfold fX10_over fX11_over
  generalize (-9223372036854775808 : Int64) = lost
  rw [z_int hC, z_intM hC, z_word hT, z_wordM hT, z_which, z_whichM]
  rcases zIn_c x (m := c) (by omega) with e | ⟨i, hi, rfl, e⟩
  · rw [e, i00, i00]
    exact ⟨_, _, rfl, rfl, h9⟩
  rw [e, i10, i10]
  rcases zIn_c y (m := n) (by omega) with e | ⟨a, ha, rfl, e⟩
  · rw [e, i00, i00]
    exact ⟨_, _, rfl, rfl, h9⟩
  rw [e, i10, i10]
  rcases zIn_c u (m := 2) (by omega) with e | ⟨w, hw, rfl, e⟩
  · rw [e, i00, i00]
    exact ⟨_, _, rfl, rfl, h9⟩
  rw [e, i10, i10, hW.2.2.1, hW.2.2.2.1]
  rcases (show v = 0 ∨ v = 1 by omega) with rfl | rfl
  · rw [show nI 0 = (0 : Int32) from rfl, i00, i00]
    exact ⟨_, _, rfl, rfl, h9⟩
  rw [show nI 1 = (1 : Int32) from rfl, i10, i10]
  obtain ⟨σ', q1, q2, q3, q4⟩ := c_ready h9 hT hC hW hi
  rw [q1, c_overTimes q2 q3 ha, m_overOf hT hC hW hi ha, Option.bind_some, Option.bind_some]
  obtain ⟨r, r1, r2⟩ := q_share (nI (ovr n T pl sp (kd i) (td i) a)).toInt64 2985984 (nI w) (by decide)
  rw [r1, r2]
  exact ⟨_, _, rfl, rfl, q4⟩
/-- the best so far, and how much it is -/
def bso (f : Nat → Int32) (s : Int32) : Nat → Int32 × Int32
  | 0 => (-9, -1)
  | i + 1 => if (s >>> (nI i &&& 31)) &&& 1 = 1 then (if f i ≤ (bso f s i).2 then bso f s i else (nI i, f i)) else bso f s i
theorem q_ask {σ τ : zSt} (h : Inv σ τ) (x y : Int32) : ∃ r σ', fX10_ask σ x y = some (r, σ') ∧ fX11_ask τ x y = some r ∧ Inv σ' τ := by
  have h9 := h
  obtain ⟨n, T, c, kd, td, v, pl, sp, t, tb, tw, th, ts, tm, hA, hT, hC, hW, hU, hR, hX⟩ := h
  have h6 := hT.2.1
  have hc := hC.1
  have hv := hW.1
  unfold fX10_ask fX11_ask
  rw [z_int hC, z_intM hC, hT.2.2.1, hT.2.2.2.1]
  rcases zIn_c x (m := c) (by omega) with e | ⟨i, hi, rfl, e⟩
  · rw [e, i00, i00]
    exact ⟨_, _, rfl, rfl, h9⟩
  rw [e, i10, i10]
  by_cases y0 : y < 0
  · rw [if_pos y0, if_pos y0]
    exact ⟨_, _, rfl, rfl, h9⟩
  rw [if_neg y0, if_neg y0]
  by_cases y1 : y < (1 : Int32) <<< (nI n &&& 31)
  · rw [if_pos y1, if_pos y1, hW.2.2.1, hW.2.2.2.1]
    rcases (show v = 0 ∨ v = 1 by omega) with rfl | rfl
    · rw [show nI 0 = (0 : Int32) from rfl, i00, i00]
      exact ⟨_, _, rfl, rfl, h9⟩
    rw [show nI 1 = (1 : Int32) from rfl, i10, i10]
    obtain ⟨σ', q1, q2, q3, q4⟩ := c_ready h9 hT hC hW hi
    rw [q1]
    unfold fX3_bestOver
    have stp : ∀ j, bso (fun a => nI (ovr n T pl sp (kd i) (td i) a)) y (j + 1) = if (y >>> (nI j &&& 31)) &&& 1 = 1 then (if nI (ovr n T pl sp (kd i) (td i) j) ≤ (bso (fun a => nI (ovr n T pl sp (kd i) (td i) a)) y j).2 then bso (fun a => nI (ovr n T pl sp (kd i) (td i) a)) y j else (nI j, nI (ovr n T pl sp (kd i) (td i) j))) else bso (fun a => nI (ovr n T pl sp (kd i) (td i) a)) y j := fun j => rfl
    rw [zl_run (body := fun s : Int32 × Int32 × Int32 => bX3_bestOver_8 σ' y s.1 s.2.1 s.2.2) (a := ((-9 : Int32), (-1 : Int32), (0 : Int32))) (fun j => ((bso (fun a => nI (ovr n T pl sp (kd i) (td i) a)) y j).1, (bso (fun a => nI (ovr n T pl sp (kd i) (td i) a)) y j).2, nI j)) n (b := ((bso (fun a => nI (ovr n T pl sp (kd i) (td i) a)) y n).1, (bso (fun a => nI (ovr n T pl sp (kd i) (td i) a)) y n).2, nI n)) rfl ?_ ?_ (by omega), zl_run (body := fun s : Int32 × Int32 × Int32 => bX11_ask_46 τ (nI i) y s.1 s.2.1 s.2.2) (a := ((-9 : Int32), (-1 : Int32), (0 : Int32))) (fun j => ((bso (fun a => nI (ovr n T pl sp (kd i) (td i) a)) y j).1, (bso (fun a => nI (ovr n T pl sp (kd i) (td i) a)) y j).2, nI j)) n (b := ((bso (fun a => nI (ovr n T pl sp (kd i) (td i) a)) y n).1, (bso (fun a => nI (ovr n T pl sp (kd i) (td i) a)) y n).2, nI n)) rfl ?_ ?_ (by omega)]
    · exact ⟨_, _, rfl, rfl, q4⟩
    · intro j hj
      show bX11_ask_46 τ (nI i) y (bso _ y j).1 (bso _ y j).2 (nI j) = _
      unfold bX11_ask_46 fX11_has
      rw [hT.2.2.2.1, i_nle hj (by omega), m_overOf hT hC hW hi hj, Option.bind_some, Option.bind_some, nI_1, stp]
      by_cases b1 : (y >>> (nI j &&& 31)) &&& 1 = 1
      · rw [if_pos b1, if_pos b1, i10]
        split <;> rfl
      · rw [if_neg b1, if_neg b1, i00]
    · show bX11_ask_46 τ (nI i) y (bso _ y n).1 (bso _ y n).2 (nI n) = _
      unfold bX11_ask_46
      rw [hT.2.2.2.1, i_le (Nat.le_refl _) (by omega)]
    · intro j hj
      show bX3_bestOver_8 σ' y (bso _ y j).1 (bso _ y j).2 (nI j) = _
      unfold bX3_bestOver_8
      rw [q2.2.2.1, i_nle hj (by omega), c_overTimes q2 q3 hj, Option.bind_some, nI_1, stp]
      by_cases b1 : (y >>> (nI j &&& 31)) &&& 1 = 1
      · rw [if_pos b1, if_pos b1]
        split <;> rfl
      · rw [if_neg b1, if_neg b1]
    · show bX3_bestOver_8 σ' y (bso _ y n).1 (bso _ y n).2 (nI n) = _
      unfold bX3_bestOver_8
      rw [q2.2.2.1, i_le (Nat.le_refl _) (by omega)]
  · rw [if_neg y1, if_neg y1]
    exact ⟨_, _, rfl, rfl, h9⟩
