def h0 : Shp := (false, 0, 0, 0, (fun _ => 0), (fun _ => 0), (fun _ => 0), (fun _ _ => 0))
theorem c_clrow {j : Nat} {kk : Int32 → Dt → Option Dt} {D : Dt} (hj : j < 5) : ∃ D', F_X5_clear_b50 5 kk 2000 (nI j) 0 D = kk (nI j) D' ∧ (∀ v, v < 61 → D'.1 (5, 5, 8, j + 1) v = 0) ∧ Sm (fun la _ => la == (5, 5, 8, j + 1)) D D' := by
  obtain ⟨D', ⟨p1, p2⟩, e⟩ := lpC (fun fu v E => F_X5_clear_b50 5 kk fu (nI j) (nI v) E) (fun v E => (∀ v', v' < v → E.1 (5, 5, 8, j + 1) v' = 0) ∧ Sm (fun la _ => la == (5, 5, 8, j + 1)) D E) 61 (kk (nI j))
    (fun fu v E hv hh => by
      refine ⟨setI E (5, 5, 8, j + 1) v 0, ⟨fun v' hv' => ?_, hh.2.trans (Sm.sI (by simp))⟩, ?_⟩
      · rw [gI]
        by_cases c : v' = v
        · rw [if_pos ⟨rfl, c⟩]
        · rw [if_neg (fun y => c y.2)]
          exact hh.1 v' (by omega)
      · show F_X5_clear_b50 5 kk (fu + 1) (nI j) (nI v) E = F_X5_clear_b50 5 kk fu (nI j) (nI (v + 1)) _
        rw [F_X5_clear_b50, if_neg (show ¬ (60 : Int32) < nI v from nI_nlt (a := 60) (by omega) (by decide)), grd_t (inBe hj (by decide)), grd_t (inBe hv (by decide)), nIc (by omega), nIc (by omega), bnd_e, bnd_e, nI_1])
    (fun fu E hh => by
      show F_X5_clear_b50 5 kk (fu + 1) (nI j) (nI 61) E = _
      rw [F_X5_clear_b50, if_pos (show (60 : Int32) < nI 61 by decide)])
    61 2000 0 D (by omega) (by omega) ⟨fun k hk => absurd hk (by omega), Sm.refl⟩
  exact ⟨D', e, p1, p2⟩
theorem c_clear {D : Dt} : ∃ D', F_X5_clear 5 D = some D' ∧ ShC D' 5 h0 ∧ Sm (fun la _ => la.1 == 5 && la.2.1 == 5) D D' := by
  rw [F_X5_clear, grd_t (V5 (by decide)), bnd_e, bnd_e, bnd_e, bnd_e]
  generalize hD0 : setI (setI (setI (setI D (5, 5, 0, 0) 0 0) (5, 5, 0, 0) 1 0) (5, 5, 0, 0) 2 0) (5, 5, 0, 0) 3 0 = D0
  have m0 : Sm (fun la _ => la.1 == 5 && la.2.1 == 5) D D0 := by
    rw [← hD0]
    exact (((Sm.sI (by simp)).trans (Sm.sI (by simp))).trans (Sm.sI (by simp))).trans (Sm.sI (by simp))
  obtain ⟨D', ⟨p1, p2, p3⟩, e⟩ := lpC (fun fu j E => F_X5_clear_b22 5 fu (nI j) E) (fun j E => (∀ k, k < j → E.1 (5, 5, 5, 0) k = 0 ∧ E.1 (5, 5, 6, 0) k = 0 ∧ E.1 (5, 5, 7, 0) k = 0 ∧ ∀ v, v < 61 → E.1 (5, 5, 8, k + 1) v = 0) ∧ (∀ k, E.1 (5, 5, 0, 0) k = D0.1 (5, 5, 0, 0) k) ∧ Sm (fun la _ => la.1 == 5 && la.2.1 == 5) D0 E) 5 some
    (fun fu j E hj hh => by
      obtain ⟨h1, h2, h3⟩ := hh
      obtain ⟨E1, e1, v1, m1⟩ := c_clrow (j := j) (kk := (fun l1_15 D16 => (bnd (l1_15 + (1 : Int32)) (fun v17 => (F_X5_clear_b22 5 fu v17 D16))))) (D := setI (setI (setI E (5, 5, 5, 0) j 0) (5, 5, 6, 0) j 0) (5, 5, 7, 0) j 0) hj
      refine ⟨E1, ⟨fun k hk => ⟨?_, ?_, ?_, fun v hv => ?_⟩, fun k => ?_, ?_⟩, ?_⟩
      · rw [m1.i (by simp), gI, if_neg (by simp), gI, if_neg (by simp), gI]
        by_cases c : k = j
        · rw [if_pos ⟨rfl, c⟩]
        · rw [if_neg (fun y => c y.2)]; exact (h1 k (by omega)).1
      · rw [m1.i (by simp), gI, if_neg (by simp), gI]
        by_cases c : k = j
        · rw [if_pos ⟨rfl, c⟩]
        · rw [if_neg (fun y => c y.2), gI, if_neg (by simp)]; exact (h1 k (by omega)).2.1
      · rw [m1.i (by simp), gI]
        by_cases c : k = j
        · rw [if_pos ⟨rfl, c⟩]
        · rw [if_neg (fun y => c y.2), gI, if_neg (by simp), gI, if_neg (by simp)]; exact (h1 k (by omega)).2.2.1
      · by_cases c : k = j
        · rw [c]; exact v1 v hv
        · rw [m1.i (by simp [c]), gI, if_neg (by simp), gI, if_neg (by simp), gI, if_neg (by simp)]; exact (h1 k (by omega)).2.2.2 v hv
      · rw [m1.i (by simp), gI, if_neg (by simp), gI, if_neg (by simp), gI, if_neg (by simp)]; exact h2 k
      · refine h3.trans ((((Sm.sI (by simp)).trans (Sm.sI (by simp))).trans (Sm.sI (by simp))).trans (m1.mono (fun la k ee => ?_)))
        rw [beq_eq_false_iff_ne]
        rintro rfl
        simp at ee
      · show F_X5_clear_b22 5 (fu + 1) (nI j) E = F_X5_clear_b22 5 fu (nI (j + 1)) E1
        rw [F_X5_clear_b22, if_neg (show ¬ (5 : Int32) ≤ nI j from nI_ge (b := 5) hj (by decide)), grd_t (inBe hj (by decide)), nIc (by omega), bnd_e, bnd_e, bnd_e, e1, bnd_e, nI_1])
    (fun fu E hh => by
      show F_X5_clear_b22 5 (fu + 1) (nI 5) E = _
      rw [F_X5_clear_b22, if_pos (show (5 : Int32) ≤ nI 5 by decide)])
    5 2000 0 D0 (by omega) (by omega) ⟨fun k hk => absurd hk (by omega), fun _ => rfl, Sm.refl⟩
  refine ⟨D', e, ⟨?_, ?_, ⟨by decide, ?_⟩, fun k hk => ?_, fun k v hk hv => ?_⟩, m0.trans p3⟩
  · rw [p2, ← hD0]; simp [gI, h0]
  · rw [p2, ← hD0]; simp [gI, h0]
  · rw [p2, ← hD0, gI_s]; rfl
  · obtain ⟨a, b, c, _⟩ := p1 k hk
    exact ⟨a, b, c⟩
  · exact (p1 k hk).2.2.2 v hv
/-- when the next comes -/
theorem soo_sh {t : Nat → Int32} {w : Nat} : ∀ m u, w + 1 < u → u + m ≤ 61 → soo t w m u = if soo t (w + 1) m u = 99 then 99 else soo t (w + 1) m u + 1
  | 0, u, _, _ => rfl
  | m + 1, u, h1, h2 => by
    rw [soo, soo]
    by_cases c : t u ≤ 0
    · rw [if_pos c, if_pos c]
      exact soo_sh m (u + 1) (by omega) (by omega)
    · rw [if_neg c, if_neg c, if_neg (fun e => by have := (nI_eq (b := 99) (by omega) (by decide)).mp e; omega), nI_1]
      congr 1
      omega
theorem soP_st {t : Nat → Int32} {w : Nat} (hw : w < 60) : soP t w = if t (w + 1) ≤ 0 then (if soP t (w + 1) = 99 then 99 else soP t (w + 1) + 1) else 1 := by
  unfold soP
  rw [show 60 - w = (60 - (w + 1)) + 1 by omega, soo]
  by_cases c : t (w + 1) ≤ 0
  · rw [if_pos c, if_pos c]
    exact soo_sh _ _ (by omega) (by omega)
  · rw [if_neg c, if_neg c]
    rw [show w + 1 - w = 1 by omega]
    rfl
theorem c_soonRow {j : Nat} {t : Nat → Int32} {kk : Int32 → Dt → Option Dt} {D : Dt} (hj : j < 5) (ht : ∀ v, v < 61 → D.1 (5, 5, 8, j + 1) v = t v) : ∃ D', F_X5_findSoon_b13 5 kk 2000 (nI j) 99 60 D = kk (nI j) D' ∧ (∀ v, v < 61 → D'.1 (5, 5, 9, j + 1) v = soP t v) ∧ Sm (fun la _ => la == (5, 5, 9, j + 1)) D D' := by
  have key : ∀ m fu E, m ≤ 61 → m < fu → Sm (fun la _ => la == (5, 5, 9, j + 1)) D E → (∀ v, m ≤ v → v < 61 → E.1 (5, 5, 9, j + 1) v = soP t v) → ∃ D', F_X5_findSoon_b13 5 kk fu (nI j) (if m = 0 then (if t 0 ≤ 0 then (if soP t 0 = 99 then 99 else soP t 0 + 1) else 1) else soP t (m - 1)) (moL m) E = kk (nI j) D' ∧ (∀ v, v < 61 → D'.1 (5, 5, 9, j + 1) v = soP t v) ∧ Sm (fun la _ => la == (5, 5, 9, j + 1)) D D' := by
    intro m
    induction m with
    | zero =>
      intro fu E hm hf s hE
      obtain ⟨fu, rfl⟩ : ∃ g, fu = g + 1 := ⟨fu - 1, by omega⟩
      rw [F_X5_findSoon_b13, if_pos (show moL 0 < 0 by decide)]
      exact ⟨E, rfl, fun v hv => hE v (by omega) hv, s⟩
    | succ m ih =>
      intro fu E hm hf s hE
      obtain ⟨fu, rfl⟩ : ∃ g, fu = g + 1 := ⟨fu - 1, by omega⟩
      have hdec : nI m + (-1 : Int32) = moL m := by
        cases m with
        | zero => rfl
        | succ m => rw [show nI (m + 1) + (-1 : Int32) = nI m from pk_m1 _, moL_s]
      rw [if_neg (show ¬ m + 1 = 0 by omega), Nat.add_sub_cancel, moL_s, F_X5_findSoon_b13, if_neg (nI_pos (by omega)), grd_t (inBe hj (by decide)), grd_t (inBe (show m < 61 by omega) (by decide)), nIc (k := j) (by omega), nIc (k := m) (by omega), bnd_e]
      have m1 : Sm (fun la _ => la == (5, 5, 9, j + 1)) E (setI E (5, 5, 9, j + 1) m (soP t m)) := Sm.sI (by simp)
      have x8 : (setI E (5, 5, 9, j + 1) m (soP t m)).1 (5, 5, 8, j + 1) m = t m := by rw [m1.i (by simp), s.i (by simp)]; exact ht m (by omega)
      have x9 : ∀ v, m ≤ v → v < 61 → (setI E (5, 5, 9, j + 1) m (soP t m)).1 (5, 5, 9, j + 1) v = soP t v := fun v h1 h2 => by
        rw [gI]
        by_cases c : v = m
        · rw [if_pos ⟨rfl, c⟩, c]
        · rw [if_neg (fun y => c y.2)]; exact hE v (by omega) h2
      have nx := ih fu (setI E (5, 5, 9, j + 1) m (soP t m)) (by omega) (by omega) (s.trans m1) x9
      have hnx : (if m = 0 then (if t 0 ≤ 0 then (if soP t 0 = 99 then 99 else soP t 0 + 1) else 1) else soP t (m - 1)) = (if t m ≤ 0 then (if soP t m = 99 then 99 else soP t m + 1) else 1) := by
        cases m with
        | zero => rfl
        | succ m => rw [if_neg (by omega), Nat.add_sub_cancel, soP_st (by omega)]
      rw [hnx] at nx
      rw [x8]
      simp only [F_X5_findSoon_b51, bnd_e, hdec]
      by_cases c : t m ≤ 0
      · rw [if_pos c]
        rw [if_pos c] at nx
        by_cases c2 : soP t m = 99
        · rw [if_pos c2, c2]
          rw [if_pos c2, c2] at nx
          exact nx
        · rw [if_neg c2]
          rw [if_neg c2] at nx
          exact nx
      · rw [if_neg c]
        rw [if_neg c] at nx
        exact nx
  exact key 61 2000 D (by omega) (by omega) Sm.refl (fun v h1 h2 => absurd h1 (by omega))
theorem c_findSoon {D : Dt} {h : Shp} (hs : ShC D 5 h) : ∃ D', F_X5_findSoon 5 D = some D' ∧ ShC D' 5 h ∧ (∀ k v, k < 5 → v < 61 → D'.1 (5, 5, 9, k + 1) v = soP (shTl h k) v) ∧ D'.1 (5, 5, 0, 0) 0 = D.1 (5, 5, 0, 0) 0 ∧ Sm (fun la _ => la.1 == 5 && la.2.1 == 5) D D' := by
  rw [F_X5_findSoon, grd_t (V5 (by decide))]
  obtain ⟨D', ⟨p1, p2⟩, e⟩ := lpC (fun fu j E => F_X5_findSoon_b2 5 fu (nI j) E) (fun j E => (∀ k v, k < j → v < 61 → E.1 (5, 5, 9, k + 1) v = soP (shTl h k) v) ∧ Sm (fun la _ => la.1 == 5 && la.2.1 == 5 && la.2.2.1 == 9) D E) 5 some
    (fun fu j E hj hh => by
      obtain ⟨E1, e1, v1, m1⟩ := c_soonRow (j := j) (t := shTl h j) (kk := (fun l1_22 D23 => (bnd (l1_22 + (1 : Int32)) (fun v24 => (F_X5_findSoon_b2 5 fu v24 D23))))) (D := E) hj (fun v hv => by rw [hh.2.i (by simp)]; exact hs.2.2.2.2 j v hj hv)
      refine ⟨E1, ⟨fun k v hk hv => ?_, hh.2.trans (m1.mono (fun la k ee => ?_))⟩, ?_⟩
      · by_cases c : k = j
        · rw [c]; exact v1 v hv
        · rw [m1.i (by simp [c])]; exact hh.1 k v (by omega) hv
      · rw [beq_eq_false_iff_ne]
        rintro rfl
        simp at ee
      · show F_X5_findSoon_b2 5 (fu + 1) (nI j) E = F_X5_findSoon_b2 5 fu (nI (j + 1)) E1
        rw [F_X5_findSoon_b2, if_neg (show ¬ (5 : Int32) ≤ nI j from nI_ge (b := 5) hj (by decide)), e1, bnd_e, nI_1])
    (fun fu E hh => by
      show F_X5_findSoon_b2 5 (fu + 1) (nI 5) E = _
      rw [F_X5_findSoon_b2, if_pos (show (5 : Int32) ≤ nI 5 by decide)])
    5 2000 0 D (by omega) (by omega) ⟨fun k v hk => absurd hk (by omega), Sm.refl⟩
  obtain ⟨a1, a2, a3, a4, a5⟩ := hs
  refine ⟨D', e, ⟨?_, ?_, ⟨a3.1, ?_⟩, fun k hk => ?_, fun k v hk hv => ?_⟩, p1, p2.i (by simp), p2.mono (fun la k ee => ?_)⟩
  · rw [p2.i (by simp)]; exact a1
  · rw [p2.i (by simp)]; exact a2
  · rw [p2.i (by simp)]; exact a3.2
  · rw [p2.i (by simp), p2.i (by simp), p2.i (by simp)]; exact a4 k hk
  · rw [p2.i (by simp)]; exact a5 k v hk hv
  · rw [Bool.and_eq_false_iff]
    left
    exact ee
def hTh (h : Shp) : Shp := (true, h.2)
def tWo (W : Wo) (h : Shp) : Wo := (h, begS h, 0, woF W, 0, woNw W, woNl W, woNf W, woC W, woD W)
def taped (A : Al) : Tp := (alL A, alB A)
theorem okTp {A : Al} (hA : okA A) : okT (taped A) := ⟨hA.2.2.2.2.1, hA.2.2.2.2.2⟩
def pTab (T : Tp) : Nat ⊕ Shp := pTb T 41 0 h0 (sbk T 0)
/-- what of the class the tape's reading writes -/
theorem RC.len0 {D D' : Dt} {A : Al} (h : RC D A) (s : Sm (fun la _ => la.1 == 2 || (la.1 == 5 && la.2.1 == 5) || la.1 == 4) D D') (h1 : D'.1 (2, 0, 0, 0) 1 = 0) : RC D' (A.1, A.2.1, A.2.2.1, A.2.2.2.1, 0, alB A) := by
  obtain ⟨r1, r2, r3, r4, r5, r6, r7, r8⟩ := h
  have zw : ∀ w (la : LA) k, w < 5 → wcl w la = true → ((fun la _ => la.1 == 2 || (la.1 == 5 && la.2.1 == 5) || la.1 == 4) : LA → Nat → Bool) la k = false := by
    intro w la k hw e
    simp only [wcl, Bool.or_eq_true, Bool.and_eq_true, beq_iff_eq, decide_eq_true_eq, Bool.or_eq_false_iff, Bool.and_eq_false_iff, beq_eq_false_iff_ne] at e ⊢
    omega
  refine ⟨r1.sm s (fun la k e => zw 0 la k (by decide) e), fun w hw => ?_, fun k hk => ?_, fun k W hk hW => (r4 k W hk hW).sm s (fun la j e => zw (k + 1) la j (by omega) e), ?_, fun r hr => (r6 r hr).sm s (fun q k _ => by simp), h1, fun k hk => absurd hk (Nat.not_lt_zero k)⟩
  · obtain ⟨p, hp⟩ := r2 w hw
    exact ⟨p, hp.sm s (fun k => by simp)⟩
  · rw [s.i (by simp)]; exact r3 k hk
  · rw [s.i (by simp)]; exact r5
theorem c_table {A : Al} {D : Dt} (hA : okA A) (h : RC D A) : match pTab (taped A) with
    | .inl f => ∃ D', F_X10_table D = some ((if f = 0 then 0 else -2 - nI f), D') ∧ (f ≠ 0 → RC D' (A.1, A.2.1, A.2.2.1, A.2.2.2.1, 0, alB A)) ∧ Sm cS D D'
    | .inr h1 => ∃ D', F_X10_table D = some (nI (shN h1), D') ∧ RC D' (tWo (alW A) (hTh h1), A.2.1, A.2.2.1, A.2.2.2.1, 0, alB A) ∧ Sm cS D D' := by
  sorry
