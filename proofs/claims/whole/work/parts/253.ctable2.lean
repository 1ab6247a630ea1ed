def h0 : Shp := (false, 0, 0, 0, (fun _ => 0), (fun _ => 0), (fun _ => 0), (fun _ _ => 0))
theorem c_clrow {j : Nat} {kk : Int32 → Dt → Option Dt} {D : Dt} (hj : j < 5) : ∃ D', F_X5_clear_b50 5 kk 2000 (nI j) 0 D = kk (nI j) D' ∧ (∀ v, v < 61 → D'.1 (5, 5, 8, j + 1) v = 0) ∧ Sm (fun la _ => la == (5, 5, 8, j + 1)) D D' := by
  obtain ⟨D', ⟨p1, p2⟩, e⟩ := lpC (fun fu v E => F_X5_clear_b50 5 kk fu (nI j) (nI v) E) (fun v E => (∀ v', v' < v → E.1 (5, 5, 8, j + 1) v' = 0) ∧ Sm (fun la _ => la == (5, 5, 8, j + 1)) D E) 61 (kk (nI j))
    (fun fu v E hv hh => by
      refine ⟨setI E (5, 5, 8, j + 1) v 0, ⟨fun v' hv' => ?_, hh.2.trans (Sm.sI (by simp))⟩, ?_⟩
      · rw [gI]
        by_cases c : v' = v
        · rw [if_pos ⟨rfl, c⟩]
        · rw [if_neg (fun y => c y.2)]
          exact hh.1 v' (by omega)
      · show F_X5_clear_b50 5 kk (fu + 1) (nI j) (nI v) E = F_X5_clear_b50 5 kk fu (nI j) (nI (v + 1)) _
        rw [F_X5_clear_b50, if_neg (show ¬ (60 : Int32) < nI v from nI_nlt (a := 60) (by omega) (by decide)), grd_t (inBe hj (by decide)), grd_t (inBe hv (by decide)), nIc (by omega), nIc (by omega), bnd_e, bnd_e, nI_1])
    (fun fu E hh => by
      show F_X5_clear_b50 5 kk (fu + 1) (nI j) (nI 61) E = _
      rw [F_X5_clear_b50, if_pos (show (60 : Int32) < nI 61 by decide)])
    61 2000 0 D (by omega) (by omega) ⟨fun k hk => absurd hk (by omega), Sm.refl⟩
  exact ⟨D', e, p1, p2⟩
theorem c_clear {D : Dt} : ∃ D', F_X5_clear 5 D = some D' ∧ ShC D' 5 h0 ∧ Sm (fun la _ => la.1 == 5 && la.2.1 == 5) D D' := by
  rw [F_X5_clear, grd_t (V5 (by decide)), bnd_e, bnd_e, bnd_e, bnd_e]
  generalize hD0 : setI (setI (setI (setI D (5, 5, 0, 0) 0 0) (5, 5, 0, 0) 1 0) (5, 5, 0, 0) 2 0) (5, 5, 0, 0) 3 0 = D0
  have m0 : Sm (fun la _ => la.1 == 5 && la.2.1 == 5) D D0 := by
    rw [← hD0]
    exact (((Sm.sI (by simp)).trans (Sm.sI (by simp))).trans (Sm.sI (by simp))).trans (Sm.sI (by simp))
  obtain ⟨D', ⟨p1, p2, p3⟩, e⟩ := lpC (fun fu j E => F_X5_clear_b22 5 fu (nI j) E) (fun j E => (∀ k, k < j → E.1 (5, 5, 5, 0) k = 0 ∧ E.1 (5, 5, 6, 0) k = 0 ∧ E.1 (5, 5, 7, 0) k = 0 ∧ ∀ v, v < 61 → E.1 (5, 5, 8, k + 1) v = 0) ∧ (∀ k, E.1 (5, 5, 0, 0) k = D0.1 (5, 5, 0, 0) k) ∧ Sm (fun la _ => la.1 == 5 && la.2.1 == 5) D0 E) 5 some
    (fun fu j E hj hh => by
      obtain ⟨h1, h2, h3⟩ := hh
      obtain ⟨E1, e1, v1, m1⟩ := c_clrow (j := j) (kk := (fun l1_15 D16 => (bnd (l1_15 + (1 : Int32)) (fun v17 => (F_X5_clear_b22 5 fu v17 D16))))) (D := setI (setI (setI E (5, 5, 5, 0) j 0) (5, 5, 6, 0) j 0) (5, 5, 7, 0) j 0) hj
      refine ⟨E1, ⟨fun k hk => ⟨?_, ?_, ?_, fun v hv => ?_⟩, fun k => ?_, ?_⟩, ?_⟩
      · rw [m1.i (by simp), gI, if_neg (by simp), gI, if_neg (by simp), gI]
        by_cases c : k = j
        · rw [if_pos ⟨rfl, c⟩]
        · rw [if_neg (fun y => c y.2)]; exact (h1 k (by omega)).1
      · rw [m1.i (by simp), gI, if_neg (by simp), gI]
        by_cases c : k = j
        · rw [if_pos ⟨rfl, c⟩]
        · rw [if_neg (fun y => c y.2), gI, if_neg (by simp)]; exact (h1 k (by omega)).2.1
      · rw [m1.i (by simp), gI]
        by_cases c : k = j
        · rw [if_pos ⟨rfl, c⟩]
        · rw [if_neg (fun y => c y.2), gI, if_neg (by simp), gI, if_neg (by simp)]; exact (h1 k (by omega)).2.2.1
      · by_cases c : k = j
        · rw [c]; exact v1 v hv
        · rw [m1.i (by simp [c]), gI, if_neg (by simp), gI, if_neg (by simp), gI, if_neg (by simp)]; exact (h1 k (by omega)).2.2.2 v hv
      · rw [m1.i (by simp), gI, if_neg (by simp), gI, if_neg (by simp), gI, if_neg (by simp)]; exact h2 k
      · refine h3.trans ((((Sm.sI (by simp)).trans (Sm.sI (by simp))).trans (Sm.sI (by simp))).trans (m1.mono (fun la k ee => ?_)))
        rw [beq_eq_false_iff_ne]
        rintro rfl
        simp at ee
      · show F_X5_clear_b22 5 (fu + 1) (nI j) E = F_X5_clear_b22 5 fu (nI (j + 1)) E1
        rw [F_X5_clear_b22, if_neg (show ¬ (5 : Int32) ≤ nI j from nI_ge (b := 5) hj (by decide)), grd_t (inBe hj (by decide)), nIc (by omega), bnd_e, bnd_e, bnd_e, e1, bnd_e, nI_1])
    (fun fu E hh => by
      show F_X5_clear_b22 5 (fu + 1) (nI 5) E = _
      rw [F_X5_clear_b22, if_pos (show (5 : Int32) ≤ nI 5 by decide)])
    5 2000 0 D0 (by omega) (by omega) ⟨fun k hk => absurd hk (by omega), fun _ => rfl, Sm.refl⟩
  refine ⟨D', e, ⟨?_, ?_, ⟨by decide, ?_⟩, fun k hk => ?_, fun k v hk hv => ?_⟩, m0.trans p3⟩
  · rw [p2, ← hD0]; simp [gI, h0]
  · rw [p2, ← hD0]; simp [gI, h0]
  · rw [p2, ← hD0, gI_s]; rfl
  · obtain ⟨a, b, c, _⟩ := p1 k hk
    exact ⟨a, b, c⟩
  · exact (p1 k hk).2.2.2 v hv
/-- when the next comes -/
theorem soo_sh {t : Nat → Int32} {w : Nat} : ∀ m u, w + 1 < u → u + m ≤ 61 → soo t w m u = if soo t (w + 1) m u = 99 then 99 else soo t (w + 1) m u + 1
  | 0, u, _, _ => rfl
  | m + 1, u, h1, h2 => by
    rw [soo, soo]
    by_cases c : t u ≤ 0
    · rw [if_pos c, if_pos c]
      exact soo_sh m (u + 1) (by omega) (by omega)
    · rw [if_neg c, if_neg c, if_neg (fun e => by have := (nI_eq (b := 99) (by omega) (by decide)).mp e; omega), nI_1]
      congr 1
      omega
theorem soP_st {t : Nat → Int32} {w : Nat} (hw : w < 60) : soP t w = if t (w + 1) ≤ 0 then (if soP t (w + 1) = 99 then 99 else soP t (w + 1) + 1) else 1 := by
  unfold soP
  rw [show 60 - w = (60 - (w + 1)) + 1 by omega, soo]
  by_cases c : t (w + 1) ≤ 0
  · rw [if_pos c, if_pos c]
    exact soo_sh _ _ (by omega) (by omega)
  · rw [if_neg c, if_neg c]
    rw [show w + 1 - w = 1 by omega]
    rfl
theorem c_soonRow {j : Nat} {t : Nat → Int32} {kk : Int32 → Dt → Option Dt} {D : Dt} (hj : j < 5) (ht : ∀ v, v < 61 → D.1 (5, 5, 8, j + 1) v = t v) : ∃ D', F_X5_findSoon_b13 5 kk 2000 (nI j) 99 60 D = kk (nI j) D' ∧ (∀ v, v < 61 → D'.1 (5, 5, 9, j + 1) v = soP t v) ∧ Sm (fun la _ => la == (5, 5, 9, j + 1)) D D' := by
  have key : ∀ m fu E, m ≤ 61 → m < fu → Sm (fun la _ => la == (5, 5, 9, j + 1)) D E → (∀ v, m ≤ v → v < 61 → E.1 (5, 5, 9, j + 1) v = soP t v) → ∃ D', F_X5_findSoon_b13 5 kk fu (nI j) (if m = 0 then (if t 0 ≤ 0 then (if soP t 0 = 99 then 99 else soP t 0 + 1) else 1) else soP t (m - 1)) (moL m) E = kk (nI j) D' ∧ (∀ v, v < 61 → D'.1 (5, 5, 9, j + 1) v = soP t v) ∧ Sm (fun la _ => la == (5, 5, 9, j + 1)) D D' := by
    intro m
    induction m with
    | zero =>
      intro fu E hm hf s hE
      obtain ⟨fu, rfl⟩ : ∃ g, fu = g + 1 := ⟨fu - 1, by omega⟩
      rw [F_X5_findSoon_b13, if_pos (show moL 0 < 0 by decide)]
      exact ⟨E, rfl, fun v hv => hE v (by omega) hv, s⟩
    | succ m ih =>
      intro fu E hm hf s hE
      obtain ⟨fu, rfl⟩ : ∃ g, fu = g + 1 := ⟨fu - 1, by omega⟩
      have hdec : nI m + (-1 : Int32) = moL m := by
        cases m with
        | zero => rfl
        | succ m => rw [show nI (m + 1) + (-1 : Int32) = nI m from pk_m1 _, moL_s]
      rw [if_neg (show ¬ m + 1 = 0 by omega), Nat.add_sub_cancel, moL_s, F_X5_findSoon_b13, if_neg (nI_pos (by omega)), grd_t (inBe hj (by decide)), grd_t (inBe (show m < 61 by omega) (by decide)), nIc (k := j) (by omega), nIc (k := m) (by omega), bnd_e]
      have m1 : Sm (fun la _ => la == (5, 5, 9, j + 1)) E (setI E (5, 5, 9, j + 1) m (soP t m)) := Sm.sI (by simp)
      have x8 : (setI E (5, 5, 9, j + 1) m (soP t m)).1 (5, 5, 8, j + 1) m = t m := by rw [m1.i (by simp), s.i (by simp)]; exact ht m (by omega)
      have x9 : ∀ v, m ≤ v → v < 61 → (setI E (5, 5, 9, j + 1) m (soP t m)).1 (5, 5, 9, j + 1) v = soP t v := fun v h1 h2 => by
        rw [gI]
        by_cases c : v = m
        · rw [if_pos ⟨rfl, c⟩, c]
        · rw [if_neg (fun y => c y.2)]; exact hE v (by omega) h2
      have nx := ih fu (setI E (5, 5, 9, j + 1) m (soP t m)) (by omega) (by omega) (s.trans m1) x9
      have hnx : (if m = 0 then (if t 0 ≤ 0 then (if soP t 0 = 99 then 99 else soP t 0 + 1) else 1) else soP t (m - 1)) = (if t m ≤ 0 then (if soP t m = 99 then 99 else soP t m + 1) else 1) := by
        cases m with
        | zero => rfl
        | succ m => rw [if_neg (by omega), Nat.add_sub_cancel, soP_st (by omega)]
      rw [hnx] at nx
      rw [x8]
      simp only [F_X5_findSoon_b51, bnd_e, hdec]
      by_cases c : t m ≤ 0
      · rw [if_pos c]
        rw [if_pos c] at nx
        by_cases c2 : soP t m = 99
        · rw [if_pos c2, c2]
          rw [if_pos c2, c2] at nx
          exact nx
        · rw [if_neg c2]
          rw [if_neg c2] at nx
          exact nx
      · rw [if_neg c]
        rw [if_neg c] at nx
        exact nx
  exact key 61 2000 D (by omega) (by omega) Sm.refl (fun v h1 h2 => absurd h1 (by omega))
theorem c_findSoon {D : Dt} {h : Shp} (hs : ShC D 5 h) : ∃ D', F_X5_findSoon 5 D = some D' ∧ ShC D' 5 h ∧ (∀ k v, k < 5 → v < 61 → D'.1 (5, 5, 9, k + 1) v = soP (shTl h k) v) ∧ D'.1 (5, 5, 0, 0) 0 = D.1 (5, 5, 0, 0) 0 ∧ Sm (fun la _ => la.1 == 5 && la.2.1 == 5) D D' := by
  rw [F_X5_findSoon, grd_t (V5 (by decide))]
  obtain ⟨D', ⟨p1, p2⟩, e⟩ := lpC (fun fu j E => F_X5_findSoon_b2 5 fu (nI j) E) (fun j E => (∀ k v, k < j → v < 61 → E.1 (5, 5, 9, k + 1) v = soP (shTl h k) v) ∧ Sm (fun la _ => la.1 == 5 && la.2.1 == 5 && la.2.2.1 == 9) D E) 5 some
    (fun fu j E hj hh => by
      obtain ⟨E1, e1, v1, m1⟩ := c_soonRow (j := j) (t := shTl h j) (kk := (fun l1_22 D23 => (bnd (l1_22 + (1 : Int32)) (fun v24 => (F_X5_findSoon_b2 5 fu v24 D23))))) (D := E) hj (fun v hv => by rw [hh.2.i (by simp)]; exact hs.2.2.2.2 j v hj hv)
      refine ⟨E1, ⟨fun k v hk hv => ?_, hh.2.trans (m1.mono (fun la k ee => ?_))⟩, ?_⟩
      · by_cases c : k = j
        · rw [c]; exact v1 v hv
        · rw [m1.i (by simp [c])]; exact hh.1 k v (by omega) hv
      · rw [beq_eq_false_iff_ne]
        rintro rfl
        simp at ee
      · show F_X5_findSoon_b2 5 (fu + 1) (nI j) E = F_X5_findSoon_b2 5 fu (nI (j + 1)) E1
        rw [F_X5_findSoon_b2, if_neg (show ¬ (5 : Int32) ≤ nI j from nI_ge (b := 5) hj (by decide)), e1, bnd_e, nI_1])
    (fun fu E hh => by
      show F_X5_findSoon_b2 5 (fu + 1) (nI 5) E = _
      rw [F_X5_findSoon_b2, if_pos (show (5 : Int32) ≤ nI 5 by decide)])
    5 2000 0 D (by omega) (by omega) ⟨fun k v hk => absurd hk (by omega), Sm.refl⟩
  obtain ⟨a1, a2, a3, a4, a5⟩ := hs
  refine ⟨D', e, ⟨?_, ?_, ⟨a3.1, ?_⟩, fun k hk => ?_, fun k v hk hv => ?_⟩, p1, p2.i (by simp), p2.mono (fun la k ee => ?_)⟩
  · rw [p2.i (by simp)]; exact a1
  · rw [p2.i (by simp)]; exact a2
  · rw [p2.i (by simp)]; exact a3.2
  · rw [p2.i (by simp), p2.i (by simp), p2.i (by simp)]; exact a4 k hk
  · rw [p2.i (by simp)]; exact a5 k v hk hv
  · rw [Bool.and_eq_false_iff]
    left
    exact ee
def hTh (h : Shp) : Shp := (true, h.2)
def tWo (W : Wo) (h : Shp) : Wo := (h, begS h, 0, woF W, 0, woNw W, woNl W, woNf W, woC W, woD W)
def taped (A : Al) : Tp := (alL A, alB A)
theorem okTp {A : Al} (hA : okA A) : okT (taped A) := ⟨hA.2.2.2.2.1, hA.2.2.2.2.2⟩
def pTab (T : Tp) : Nat ⊕ Shp := pTb T 41 0 h0 (sbk T 0)
/-- what of the class the tape's reading writes -/
theorem RC.len0 {D D' : Dt} {A : Al} (h : RC D A) (s : Sm (fun la _ => la.1 == 2 || (la.1 == 5 && la.2.1 == 5) || la.1 == 4) D D') (h1 : D'.1 (2, 0, 0, 0) 1 = 0) : RC D' (A.1, A.2.1, A.2.2.1, A.2.2.2.1, 0, alB A) := by
  obtain ⟨r1, r2, r3, r4, r5, r6, r7, r8⟩ := h
  have zw : ∀ w (la : LA) k, w < 5 → wcl w la = true → ((fun la _ => la.1 == 2 || (la.1 == 5 && la.2.1 == 5) || la.1 == 4) : LA → Nat → Bool) la k = false := by
    intro w la k hw e
    simp only [wcl, Bool.or_eq_true, Bool.and_eq_true, beq_iff_eq, decide_eq_true_eq, Bool.or_eq_false_iff, Bool.and_eq_false_iff, beq_eq_false_iff_ne] at e ⊢
    omega
  refine ⟨r1.sm s (fun la k e => zw 0 la k (by decide) e), fun w hw => ?_, fun k hk => ?_, fun k W hk hW => (r4 k W hk hW).sm s (fun la j e => zw (k + 1) la j (by omega) e), ?_, fun r hr => (r6 r hr).sm s (fun q k _ => by simp), h1, fun k hk => absurd hk (Nat.not_lt_zero k)⟩
  · obtain ⟨p, hp⟩ := r2 w hw
    exact ⟨p, hp.sm s (fun k => by simp)⟩
  · rw [s.i (by simp)]; exact r3 k hk
  · rw [s.i (by simp)]; exact r5
theorem nq_le {T : Tp} {q : Nat} (h : q ≤ tpL T) : nq T q ≤ tpL T := by
  by_cases c : q < tpL T
  · exact (nq_gt c).2
  · unfold nq nx
    rw [if_pos (by omega)]
    exact sbk_le h
theorem pNum_f {T : Tp} {q lo h1 f : Nat} (hq : q ≤ tpL T) (h : pNum T q lo h1 = .inl f) : 1 ≤ f ∧ f ≤ 8 * tpL T + 10 := by
  unfold pNum at h
  split at h
  · split at h
    · cases h
    · simp only [Sum.inl.injEq] at h
      omega
  · split at h
    · simp only [Sum.inl.injEq] at h
      omega
    · simp only [Sum.inl.injEq] at h
      omega
theorem pNum_q {T : Tp} {q lo h1 q1 v : Nat} (hq : q ≤ tpL T) (h : pNum T q lo h1 = .inr (q1, v)) : q1 ≤ tpL T := by
  rw [(pNum_v h).2.2.1]
  exact nq_le hq
theorem pTC_b {T : Tp} {h : Shp} {cl q : Nat} (hq : q ≤ tpL T) : (∀ f, pTC T h cl q = .inl f → 1 ≤ f ∧ f ≤ 8 * tpL T + 10) ∧ (∀ h1 q1, pTC T h cl q = .inr (h1, q1) → q1 ≤ tpL T) := by
  have hn := nq_le hq
  unfold pTC
  split
  · refine ⟨fun f e => ?_, fun h1 q1 e => ?_⟩
    · simp only [Sum.inl.injEq] at e
      omega
    · cases e
  · split
    · refine ⟨fun f e => ?_, fun h1 q1 e => ?_⟩
      · simp only [Sum.inl.injEq] at e
        omega
      · cases e
    · split
      · cases e1 : pNum T (nq T q) 1 10 with
        | inl f1 => exact ⟨fun f e => by simp only [Sum.inl.injEq] at e; rw [← e]; exact pNum_f hn e1, fun h1 q1 e => by cases e⟩
        | inr w =>
          obtain ⟨q1, r⟩ := w
          have hq1 := pNum_q hn e1
          simp only
          cases e2 : pNum T q1 0 10 with
          | inl f1 => exact ⟨fun f e => by simp only [Sum.inl.injEq] at e; rw [← e]; exact pNum_f hq1 e2, fun h1 q1 e => by cases e⟩
          | inr w2 =>
            obtain ⟨q2, s⟩ := w2
            exact ⟨fun f e => (by cases e), fun h1 q3 e => by simp only [Sum.inr.injEq, Prod.mk.injEq] at e; rw [← e.2]; exact pNum_q hq1 e2⟩
      · split
        · cases e1 : pNum T (nq T q) 0 100 with
          | inl f1 => exact ⟨fun f e => by simp only [Sum.inl.injEq] at e; rw [← e]; exact pNum_f hn e1, fun h1 q1 e => by cases e⟩
          | inr w =>
            obtain ⟨q1, r⟩ := w
            have hq1 := pNum_q hn e1
            simp only
            cases e2 : pNum T q1 0 10 with
            | inl f1 => exact ⟨fun f e => by simp only [Sum.inl.injEq] at e; rw [← e]; exact pNum_f hq1 e2, fun h1 q1 e => by cases e⟩
            | inr w2 =>
              obtain ⟨q2, s⟩ := w2
              have hq2 := pNum_q hq1 e2
              simp only
              cases e3 : pNum T q2 0 100 with
              | inl f1 => exact ⟨fun f e => by simp only [Sum.inl.injEq] at e; rw [← e]; exact pNum_f hq2 e3, fun h1 q1 e => by cases e⟩
              | inr w3 =>
                obtain ⟨q3, c⟩ := w3
                exact ⟨fun f e => (by cases e), fun h1 q4 e => by simp only [Sum.inr.injEq, Prod.mk.injEq] at e; rw [← e.2]; exact pNum_q hq2 e3⟩
        · cases e1 : pNum T (nq T q) 0 (shN h) with
          | inl f1 => exact ⟨fun f e => by simp only [Sum.inl.injEq] at e; rw [← e]; exact pNum_f hn e1, fun h1 q1 e => by cases e⟩
          | inr w =>
            obtain ⟨q1, r⟩ := w
            have hq1 := pNum_q hn e1
            simp only
            cases e2 : pNum T q1 0 61 with
            | inl f1 => exact ⟨fun f e => by simp only [Sum.inl.injEq] at e; rw [← e]; exact pNum_f hq1 e2, fun h1 q1 e => by cases e⟩
            | inr w2 =>
              obtain ⟨q2, s⟩ := w2
              exact ⟨fun f e => (by cases e), fun h1 q3 e => by simp only [Sum.inr.injEq, Prod.mk.injEq] at e; rw [← e.2]; exact pNum_q hq1 e2⟩
theorem pTb_f {T : Tp} : ∀ m cl h q f, q ≤ tpL T → pTb T m cl h q = .inl f → 1 ≤ f ∧ f ≤ 8 * tpL T + 10
  | 0, cl, h, q, f, hq, e => by
    rw [pTb] at e
    simp only [Sum.inl.injEq] at e
    omega
  | m + 1, cl, h, q, f, hq, e => by
    rw [pTb] at e
    obtain ⟨b1, b2⟩ := pTC_b (h := h) (cl := cl) hq
    cases e1 : pTC T h cl q with
    | inl g =>
      rw [e1] at e
      simp only [Sum.inl.injEq] at e
      rw [← e]
      exact b1 g e1
    | inr w =>
      obtain ⟨h1, q1⟩ := w
      rw [e1] at e
      have hq1 := b2 h1 q1 e1
      simp only at e
      split at e
      · cases e
      · split at e
        · exact pTb_f m (cl + 1) h1 (nq T q1) f (nq_le hq1) e
        · simp only [Sum.inl.injEq] at e
          omega
theorem Tok.cp {D : Dt} {T : Tp} {N : Nat} (h : Tok D T N) (h6 : D.1 (2, 0, 0, 0) 6 = 0) (h7 : D.1 (2, 0, 0, 0) 7 = 0) : CP D T (sbk T 0) := ⟨⟨N, 0, h, by omega, h6, rfl⟩, h7⟩
theorem c_table {A : Al} {D : Dt} (hA : okA A) (h : RC D A) : match pTab (taped A) with
    | .inl f => ∃ D', F_X10_table D = some (-2 - nI f, D') ∧ RC D' (A.1, A.2.1, A.2.2.1, A.2.2.2.1, 0, alB A) ∧ Sm cS D D'
    | .inr h1 => ∃ D', F_X10_table D = some (nI (shN h1), D') ∧ RC D' (tWo (alW A) (hTh h1), A.2.1, A.2.2.1, A.2.2.2.1, 0, alB A) ∧ Sm cS D D' := by
  have hT := okTp hA
  have hL := hT.1
  obtain ⟨D1, N, e1, t1, a6, a7, m1⟩ := c_split (D := D) hT ⟨h.2.2.2.2.2.2.1, h.2.2.2.2.2.2.2⟩
  have m2 : Sm (fun la k => la == (2, 0, 0, 0) && k == 1) D1 (setI D1 (2, 0, 0, 0) 1 0) := Sm.sI (by simp)
  have c2 : CP (setI D1 (2, 0, 0, 0) 1 0) (taped A) (sbk (taped A) 0) := (t1.cp a6 a7).sm m2 (fun q k _ _ => by simp; omega) (fun k _ _ => by simp; omega)
  have len2 : (setI D1 (2, 0, 0, 0) 1 0).1 (2, 0, 0, 0) 1 = 0 := gI_s
  rw [F_X10_table, e1, vbd_s, bnd_e]
  generalize setI D1 (2, 0, 0, 0) 1 0 = D2 at m2 c2 len2 ⊢
  obtain ⟨D3, e3, s3, m3⟩ := c_clear (D := D2)
  have c3 : CP D3 (taped A) (sbk (taped A) 0) := c2.sm m3 (fun _ _ _ _ => by simp) (fun _ _ _ => by simp)
  have len3 : D3.1 (2, 0, 0, 0) 1 = 0 := by rw [m3.i (by simp)]; exact len2
  rw [F_X7_read, grd_t (V5 (by decide)), e3, vbd_s]
  have fr : ∀ {E E' : Dt}, Sm rtS E E' → Sm (fun la _ => la.1 == 2 || (la.1 == 5 && la.2.1 == 5) || la.1 == 4) E E' := fun s => s.mono (fun la k e => by
    simp only [rtS, prS, Bool.or_eq_false_iff, Bool.and_eq_false_iff, beq_eq_false_iff_ne] at e ⊢
    refine ⟨Or.inl (fun x => e.1.1 (by rw [x])), e.1.2⟩)
  have m13 : Sm (fun la _ => la.1 == 2 || (la.1 == 5 && la.2.1 == 5) || la.1 == 4) D D3 := by
    refine ((m1.mono (fun la k e => ?_)).trans (m2.mono (fun la k e => ?_))).trans (m3.mono (fun la k e => ?_))
    · simp only [Bool.or_eq_false_iff, Bool.and_eq_false_iff, beq_eq_false_iff_ne] at e
      simp only [spS, Bool.or_eq_false_iff, Bool.and_eq_false_iff, beq_eq_false_iff_ne]
      exact ⟨⟨⟨fun x => e.1.1 (by rw [x]), fun x => e.1.1 (by rw [x])⟩, fun x => e.1.1 (by rw [x])⟩, Or.inl (fun x => e.1.1 (by rw [x]))⟩
    · simp only [Bool.or_eq_false_iff, Bool.and_eq_false_iff, beq_eq_false_iff_ne] at e
      simp only [Bool.and_eq_false_iff, beq_eq_false_iff_ne]
      exact Or.inl (fun x => e.1.1 (by rw [x]))
    · simp only [Bool.or_eq_false_iff] at e
      exact e.1.2
  have csm : ∀ {E E' : Dt}, Sm (fun la _ => la.1 == 2 || (la.1 == 5 && la.2.1 == 5) || la.1 == 4) E E' → Sm cS E E' := fun s => s.mono (fun la k e => by
    have : la.1 = 11 := by simpa [cS] using e
    simp [this])
  have len : ∀ {E : Dt}, Sm rtS D3 E → E.1 (2, 0, 0, 0) 1 = 0 := fun s => by rw [s.i (by simp [rtS, prS])]; exact len3
  have lp := c_tLoop (T := taped A) (kk := (fun D17 => (bnd (setI D17 (5, 5, 0, 0) 0 (1 : Int32)) (fun D18 => (some ((0 : Int32), D18)))))) 41 2000 0 D3 h0 (sbk (taped A) 0) (by omega) (by omega) c3 s3
  unfold pTab
  cases e4 : pTb (taped A) 41 0 h0 (sbk (taped A) 0) with
  | inl f =>
    rw [e4] at lp
    obtain ⟨D4, e5, m5⟩ := lp (by decide)
    obtain ⟨f1, f2⟩ := pTb_f 41 0 h0 _ f (sbk_le (Nat.zero_le _)) e4
    simp only
    rw [show F_X7_read_b6 5 _ 2000 0 D3 = _ from e5, cbd_s, if_neg (nI_ne0 (by omega) (by omega))]
    exact ⟨D4, rfl, h.len0 (m13.trans (fr m5)) (len m5), csm (m13.trans (fr m5))⟩
  | inr h1 =>
    rw [e4] at lp
    obtain ⟨D4, e5, s5, m5⟩ := lp
    simp only
    rw [show F_X7_read_b6 5 _ 2000 0 D3 = _ from e5, bnd_e, cbd_s, if_pos rfl]
    have m6 : Sm rtS D4 (setI D4 (5, 5, 0, 0) 0 1) := Sm.sI (by simp [rtS])
    have th : (setI D4 (5, 5, 0, 0) 0 1).1 (5, 5, 0, 0) 0 = 1 := gI_s
    have s6 : ShC (setI D4 (5, 5, 0, 0) 0 1) 5 h1 := by
      obtain ⟨b1, b2, b3, b4, b5⟩ := s5
      refine ⟨?_, ?_, ⟨b3.1, ?_⟩, fun k hk => ?_, fun k v hk hv => ?_⟩
      · rw [gI, if_neg (by simp)]; exact b1
      · rw [gI, if_neg (by simp)]; exact b2
      · rw [gI, if_neg (by simp)]; exact b3.2
      · rw [gI, if_neg (by simp), gI, if_neg (by simp), gI, if_neg (by simp)]; exact b4 k hk
      · rw [gI, if_neg (by simp)]; exact b5 k v hk hv
    generalize setI D4 (5, 5, 0, 0) 0 1 = D5 at m6 th s6 ⊢
    obtain ⟨D6, e6, s7, so7, th7, m7⟩ := c_findSoon s6
    rw [th] at th7
    have m7' : Sm (fun la _ => la.1 == 2 || (la.1 == 5 && la.2.1 == 5) || la.1 == 4) D5 D6 := m7.mono (fun la k e => by
      simp only [Bool.or_eq_false_iff] at e
      exact e.1.2)
    have mA : Sm (fun la _ => la.1 == 2 || (la.1 == 5 && la.2.1 == 5) || la.1 == 4) D D6 := ((m13.trans (fr m5)).trans (fr m6)).trans m7'
    have lenA : D6.1 (2, 0, 0, 0) 1 = 0 := by rw [m7.i (by simp)]; exact len (m5.trans m6)
    have RA := h.len0 mA lenA
    have r5 : RCs D6 5 (hTh h1) := by
      obtain ⟨b1, b2, b3, b4, b5⟩ := s7
      exact ⟨th7, b1, b2, b3.2, b4, b5, fun _ k v hk hv => so7 k v hk hv⟩
    rw [e6, vbd_s, F_X9_begin, grd_t (V9 (by decide)), grd_t (V5 (by decide))]
    obtain ⟨D7, e7, r7, m8⟩ := c_shCopy (i := 0) (j := 5) (by decide) (by decide) (by decide) r5
    have r75 : RCs D7 5 (hTh h1) := r5.sm m8 (fun a b k => by simp [s5S])
    obtain ⟨D8, e8, r8, m9⟩ := c_begin (i := 0) (V6 (by decide)) (by decide) r75
    rw [e7, vbd_s, show F_X6_begin (21 * 0) 5 D7 = _ from e8, vbd_s, bnd_e, bnd_e, vbd_s]
    generalize hD9 : setI (setI D8 (0, 0, 0, 0) 1 0) (9, 0, 0, 0) 6 0 = D9
    have m10 : Sm (fun la k => la == (0, 0, 0, 0) || la == (9, 0, 0, 0)) D8 D9 := by
      rw [← hD9]
      exact (Sm.sI (by simp)).trans (Sm.sI (by simp))
    have g1 : D9.1 (0, 0, 0, 0) 1 = 0 := by rw [← hD9, gI, if_neg (by simp), gI_s]
    have g2 : D9.1 (9, 0, 0, 0) 6 = 0 := by rw [← hD9, gI_s]
    have g3 : ∀ k, k ≠ 6 → D9.1 (9, 0, 0, 0) k = D8.1 (9, 0, 0, 0) k := fun k hk => by rw [← hD9, gI, if_neg (by simp [hk]), gI, if_neg (by simp)]
    have mW : Sm cW D6 D9 := by
      refine ((cW_of m8 (fun la k e => ?_)).trans (st0_W m9)).trans (cW_of m10 (fun la k e => ?_))
      · simp only [cW, wcl, s5S, Bool.or_eq_false_iff, Bool.and_eq_false_iff, decide_eq_false_iff_not, beq_eq_false_iff_ne] at e ⊢
        omega
      · simp only [Bool.or_eq_false_iff, beq_eq_false_iff_ne]
        refine ⟨?_, ?_⟩ <;> (rintro rfl; simp [cW, wcl] at e)
    have hw : RCw D9 0 (tWo (alW A) (hTh h1)) := by
      obtain ⟨w1, w2, w3, w4, ⟨p, w5, w6⟩, w7, w8, w9, w10, w11⟩ := RA.1
      refine ⟨(r7.sm m9 (fun a b k => by simp [stS])).sm m10 (fun a b k => by simp), ?_, Nat.zero_le _, g1, ⟨p, ((w5.sm m8 (fun k => by simp [s5S])).sm m9 (fun k => by simp [stS])).sm m10 (fun k => by simp), fun j hj => absurd hj (Nat.not_lt_zero j)⟩, Nat.zero_le _, g2, fun j hj => absurd hj (Nat.not_lt_zero j), ?_, ?_⟩
      · rw [rdS_sm m10 (fun q k => by simp)]; exact r8
      · rw [g3 7 (by decide), m9.i (by simp [stS]), m8.i (by simp [s5S])]; exact w10
      · rw [g3 8 (by decide), m9.i (by simp [stS]), m8.i (by simp [s5S])]; exact w11
    have h3 : D9.1 (5, 0, 0, 0) 3 = nI (shN h1) := hw.1.2.2.2.1
    rw [h3]
    exact ⟨D9, rfl, RA.setW mW hw, (csm mA).trans (cW_c mW)⟩
