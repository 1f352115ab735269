/-! shifts, as numbers: the least cost from a minute on, and the row with it -/
def sMo (a : Nat) : Nat := if 9 ≤ a then 9 else a + 1
def sPk (k a b l c : Nat) : Nat := match k with
  | 0 => 0
  | k + 1 => min ((a + if l = 0 then 0 else c) * 2 ^ 40 + sPk k (sMo a) (b - 1) 0 c) ((b + if l = 1 then 0 else c) * 2 ^ 40 + 2 ^ k + sPk k (a - 1) (sMo b) 1 c)
/-- the packed least row of m minutes -/
def sPv (a b m c : Nat) : Nat := min (a * 2 ^ 40 + sPk (m - 1) (sMo a) (b - 1) 0 c) (b * 2 ^ 40 + 2 ^ (m - 1) + sPk (m - 1) (a - 1) (sMo b) 1 c)
/-! THE RELATION of the landed system's state σ and the reference's state τ -/
def pA (σ τ : zSt) : Prop := ∀ k, k < 4 → ((zI σ 17 k = -1 ∧ zI τ 1 k = -9) ∨ ∃ n s, n ≤ 120 ∧ s ≤ 2 ∧ zI σ 17 k = nI n ∧ zI τ 2 k = nI n ∧ zI σ 16 k = nI s ∧ zI τ 1 k = nI s) ∧ ∀ i, i < 120 → zI σ (12 + k) i = zI τ 3 (120 * k + i)
def pT (σ τ : zSt) (n : Nat) (T : Nat → Nat → Nat → Nat) : Prop := (n = 0 ∨ 2 ≤ n) ∧ n ≤ 6 ∧ zI σ 3 0 = nI n ∧ zI τ 0 5 = nI n ∧ ∀ w, w < 2 → ∀ a, a < n → rowOK n (T w a) ∧ (∀ b, b < n → zI σ (33 + (6 * w + a)) b = nI (T w a b) ∧ zI τ 4 (36 * w + 6 * a + b) = nI (T w a b)) ∧ zI σ (33 + (6 * w + a)) n = nI (12 - sm n (T w a)) ∧ zI σ 45 (6 * w + a) = nI (amx n (T w a))
def pC (σ τ : zSt) (c : Nat) (kd td : Nat → Nat) : Prop := c ≤ 4 ∧ zI σ 4 2 = nI c ∧ zI τ 0 11 = nI c ∧ ∀ x, x < c → kd x ≤ 2 ∧ td x ≤ 9 ∧ zI σ 46 x = nI (kd x) ∧ zI τ 6 x = nI (kd x) ∧ zI σ 47 x = nI (td x) ∧ zI τ 7 x = nI (td x)
def pW (σ τ : zSt) (n v pl : Nat) (sp : Nat → Nat → Nat) : Prop := v ≤ 1 ∧ pl ≤ 9 ∧ zI σ 5 1 = nI v ∧ zI τ 0 16 = nI v ∧ zI σ 5 2 = nI pl ∧ zI τ 0 17 = nI pl ∧ (v = 1 → 2 ≤ n ∧ ∀ a, a < n → rowOK n (sp a) ∧ (∀ b, b < n → zI τ 10 (6 * a + b) = nI (sp a b) ∧ zI σ (49 + a) b = nI (ans pl sp a b)) ∧ zI σ (49 + a) n = nI ((12 - sm n (sp a)) * (12 - pl)))
def pU (σ τ : zSt) (n : Nat) (T : Nat → Nat → Nat → Nat) (c : Nat) (kd : Nat → Nat) (v pl : Nat) (sp : Nat → Nat → Nat) (t : Nat) (tb tw th ts tm : Nat → Nat) : Prop := t ≤ 6 ∧ zI σ 8 1 = nI t ∧ zI τ 0 19 = nI t ∧ (0 < t → v = 1) ∧ ∀ u, u < t → (tb u < c ∧ tw u < n ∧ th u < n ∧ ts u ≤ 9 ∧ 1 ≤ tm u ∧ tm u ≤ 9) ∧ (zI σ (73 + u) 0 = nI (tb u) ∧ zI σ (73 + u) 1 = nI (tw u) ∧ zI σ (73 + u) 2 = nI (th u) ∧ zI σ (73 + u) 3 = nI (ts u) ∧ zI σ (73 + u) 4 = nI (tm u) ∧ zI σ (73 + u) 5 = nI (tru n T pl sp (kd (tb u)) (tw u) (th u))) ∧ zI τ 11 u = nI (tb u) ∧ zI τ 12 u = nI (tw u) ∧ zI τ 13 u = nI (th u) ∧ zI τ 14 u = nI (ts u) ∧ zI τ 15 u = nI (tm u)
def pR (σ : zSt) : Prop := ((zR σ 7 1 = 69 ∧ zR σ 7 2 = 70) ∨ (zR σ 7 1 = 70 ∧ zR σ 7 2 = 69)) ∧ ((zR σ 9 0 = 80 ∧ zR σ 9 1 = 81) ∨ (zR σ 9 0 = 81 ∧ zR σ 9 1 = 80)) ∧ ∀ f s m c, f ≤ 9 → s ≤ 9 → 1 ≤ m → m ≤ 40 → c ≤ 9 → zI σ 9 2 = nI (((f * 10 + s) * 10 + c) * 41 + m) → zJ σ 9 3 = lN (sPv f s m c)
def pX (σ τ : zSt) : Prop := zI σ 0 10 = zI τ 0 0 ∧ zI σ 4 3 = zI τ 0 1
def Inv (σ τ : zSt) : Prop := ∃ (n : Nat) (T : Nat → Nat → Nat → Nat) (c : Nat) (kd td : Nat → Nat) (v pl : Nat) (sp : Nat → Nat → Nat) (t : Nat) (tb tw th ts tm : Nat → Nat), pA σ τ ∧ pT σ τ n T ∧ pC σ τ c kd td ∧ pW σ τ n v pl sp ∧ pU σ τ n T c kd v pl sp t tb tw th ts tm ∧ pR σ ∧ pX σ τ
/-! what a part rests on -/
theorem pA.mv {σ τ σ' τ' : zSt} (h : pA σ τ) (hs : ∀ c k, 12 ≤ c → c ≤ 17 → zI σ' c k = zI σ c k) (ht : ∀ c k, 1 ≤ c → c ≤ 3 → zI τ' c k = zI τ c k) : pA σ' τ' := by
  intro k hk
  rw [hs 17 k (by omega) (by omega), hs 16 k (by omega) (by omega), ht 1 k (by omega) (by omega), ht 2 k (by omega) (by omega)]
  refine ⟨(h k hk).1, fun i hi => ?_⟩
  rw [hs (12 + k) i (by omega) (by omega), ht 3 _ (by omega) (by omega)]
  exact (h k hk).2 i hi
theorem pT.mv {σ τ σ' τ' : zSt} {n : Nat} {T : Nat → Nat → Nat → Nat} (h : pT σ τ n T) (h0 : zI σ' 3 0 = zI σ 3 0) (hs : ∀ c k, 33 ≤ c → c ≤ 45 → zI σ' c k = zI σ c k) (h5 : zI τ' 0 5 = zI τ 0 5) (ht : ∀ k, zI τ' 4 k = zI τ 4 k) : pT σ' τ' n T := by
  obtain ⟨h1, h2, h3, h4, h6⟩ := h
  refine ⟨h1, h2, by rw [h0]; exact h3, by rw [h5]; exact h4, fun w hw a ha => ?_⟩
  obtain ⟨g1, g2, g3, g4⟩ := h6 w hw a ha
  refine ⟨g1, fun b hb => ?_, ?_, ?_⟩
  · rw [hs _ _ (by omega) (by omega), ht]; exact g2 b hb
  · rw [hs _ _ (by omega) (by omega)]; exact g3
  · rw [hs _ _ (by omega) (by omega)]; exact g4
theorem pC.mv {σ τ σ' τ' : zSt} {c : Nat} {kd td : Nat → Nat} (h : pC σ τ c kd td) (h0 : zI σ' 4 2 = zI σ 4 2) (hs : ∀ c k, 46 ≤ c → c ≤ 47 → zI σ' c k = zI σ c k) (h5 : zI τ' 0 11 = zI τ 0 11) (ht : ∀ c k, 6 ≤ c → c ≤ 7 → zI τ' c k = zI τ c k) : pC σ' τ' c kd td := by
  obtain ⟨h1, h2, h3, h4⟩ := h
  refine ⟨h1, by rw [h0]; exact h2, by rw [h5]; exact h3, fun x hx => ?_⟩
  rw [hs 46 x (by omega) (by omega), hs 47 x (by omega) (by omega), ht 6 x (by omega) (by omega), ht 7 x (by omega) (by omega)]
  exact h4 x hx
theorem pW.mv {σ τ σ' τ' : zSt} {n v pl : Nat} {sp : Nat → Nat → Nat} (h : pW σ τ n v pl sp) (hs : ∀ c k, c = 5 ∨ (49 ≤ c ∧ c ≤ 54) → zI σ' c k = zI σ c k) (h16 : zI τ' 0 16 = zI τ 0 16) (h17 : zI τ' 0 17 = zI τ 0 17) (ht : ∀ k, zI τ' 10 k = zI τ 10 k) (hn : n ≤ 6) : pW σ' τ' n v pl sp := by
  obtain ⟨h1, h2, h3, h4, h5, h6, h7⟩ := h
  refine ⟨h1, h2, by rw [hs 5 1 (Or.inl rfl)]; exact h3, by rw [h16]; exact h4, by rw [hs 5 2 (Or.inl rfl)]; exact h5, by rw [h17]; exact h6, fun hv => ⟨(h7 hv).1, fun a ha => ?_⟩⟩
  obtain ⟨g1, g2, g3⟩ := (h7 hv).2 a ha
  refine ⟨g1, fun b hb => ?_, ?_⟩
  · rw [hs (49 + a) b (Or.inr ⟨by omega, by omega⟩), ht]; exact g2 b hb
  · rw [hs (49 + a) n (Or.inr ⟨by omega, by omega⟩)]; exact g3
theorem pU.mv {σ τ σ' τ' : zSt} {n : Nat} {T : Nat → Nat → Nat → Nat} {c : Nat} {kd : Nat → Nat} {v pl : Nat} {sp : Nat → Nat → Nat} {t : Nat} {tb tw th ts tm : Nat → Nat} (h : pU σ τ n T c kd v pl sp t tb tw th ts tm) (h0 : zI σ' 8 1 = zI σ 8 1) (hs : ∀ c k, 73 ≤ c → c ≤ 78 → zI σ' c k = zI σ c k) (h19 : zI τ' 0 19 = zI τ 0 19) (ht : ∀ c k, 11 ≤ c → c ≤ 15 → zI τ' c k = zI τ c k) : pU σ' τ' n T c kd v pl sp t tb tw th ts tm := by
  obtain ⟨h1, h2, h3, h4, h5⟩ := h
  refine ⟨h1, by rw [h0]; exact h2, by rw [h19]; exact h3, h4, fun u hu => ?_⟩
  have e : ∀ k, zI σ' (73 + u) k = zI σ (73 + u) k := fun k => hs _ k (by omega) (by omega)
  rw [e, e, e, e, e, e, ht 11 u (by omega) (by omega), ht 12 u (by omega) (by omega), ht 13 u (by omega) (by omega), ht 14 u (by omega) (by omega), ht 15 u (by omega) (by omega)]
  exact h5 u hu
theorem pR.mv {σ σ' : zSt} (h : pR σ) (h1 : zR σ' 7 1 = zR σ 7 1) (h2 : zR σ' 7 2 = zR σ 7 2) (h3 : zR σ' 9 0 = zR σ 9 0) (h4 : zR σ' 9 1 = zR σ 9 1) (h5 : zI σ' 9 2 = zI σ 9 2) (h6 : zJ σ' 9 3 = zJ σ 9 3) : pR σ' := by
  unfold pR
  rw [h1, h2, h3, h4, h5, h6]
  exact h
/-- the cells of the landed system that hold its state; of the reference -/
def zcoC (c : Nat) : Prop := c = 3 ∨ c = 4 ∨ c = 5 ∨ c = 8 ∨ (12 ≤ c ∧ c ≤ 17) ∨ (33 ≤ c ∧ c ≤ 47) ∨ (49 ≤ c ∧ c ≤ 54) ∨ (73 ≤ c ∧ c ≤ 78)
def zcoM (c k : Nat) : Prop := (c = 0 ∧ (k = 1 ∨ k = 5 ∨ k = 11 ∨ k = 16 ∨ k = 17 ∨ k = 19)) ∨ (1 ≤ c ∧ c ≤ 4) ∨ (6 ≤ c ∧ c ≤ 7) ∨ (10 ≤ c ∧ c ≤ 15)
/-- only work rows and the fault have changed -/
theorem Inv.mv {σ τ σ' τ' : zSt} (h : Inv σ τ) (hs : ∀ c k, zcoC c → zI σ' c k = zI σ c k) (ht : ∀ c k, zcoM c k → zI τ' c k = zI τ c k) (hf : zI σ' 0 10 = zI τ' 0 0) (hR : pR σ') : Inv σ' τ' := by
  obtain ⟨n, T, c, kd, td, v, pl, sp, t, tb, tw, th, ts, tm, h1, h2, h3, h4, h5, h6, h7⟩ := h
  refine ⟨n, T, c, kd, td, v, pl, sp, t, tb, tw, th, ts, tm, h1.mv ?_ ?_, h2.mv ?_ ?_ ?_ ?_, h3.mv ?_ ?_ ?_ ?_, h4.mv ?_ ?_ ?_ ?_ h2.2.1, h5.mv ?_ ?_ ?_ ?_, hR, hf, ?_⟩
  all_goals first
    | (intro c k a b; apply hs; unfold zcoC; omega)
    | (intro c k a b; apply ht; unfold zcoM; omega)
    | (intro c k a; apply hs; unfold zcoC; omega)
    | (intro k; apply ht; unfold zcoM; omega)
    | (apply hs; unfold zcoC; omega)
    | (apply ht; unfold zcoM; omega)
    | skip
  rw [hs 4 3 (by unfold zcoC; omega), ht 0 1 (by unfold zcoM; omega)]
  exact h7.2
