/-! ===== by which RULE notes were so ===== -/
theorem r_copies {a1 a2 : LA} {n : Nat} {D : Dt} (v1 : V a1 = true) (v2 : V a2 = true) (s1 : sh a1 = .inr (0, n)) (s2 : sh a2 = .inr (0, n)) (hne : a1 ≠ a2) (hn : n < 1000) : ∃ D', F_X11_copies a1 a2 D = some D' ∧ (∀ k, k < n → D'.1 a2 k = D.1 a1 k) ∧ Sm (fun la k => la == a2 && decide (k < n)) D D' := by
  have l1 : lenOf a1 = n := by simp only [lenOf, s1]
  have l2 : lenOf a2 = n := by simp only [lenOf, s2]
  rw [F_X11_copies, grd_t ⟨v1, by rw [l1]; exact s1⟩, grd_t ⟨v2, by rw [l2]; exact s2⟩]
  obtain ⟨D', ⟨h1, h2⟩, e⟩ := lpC (fun fu j E => F_X11_copies_b2 a1 a2 fu (nI j) E) (fun j E => (∀ k, k < j → E.1 a2 k = D.1 a1 k) ∧ Sm (fun la k => la == a2 && decide (k < n)) D E) n some
    (fun fu j E hj h => by
      refine ⟨setI E a2 j (E.1 a1 j), ⟨fun k hk => ?_, h.2.trans (Sm.sI (by simp [hj]))⟩, ?_⟩
      · rw [gI]
        by_cases c : k = j
        · rw [if_pos ⟨rfl, c⟩, c, h.2.i]
          rw [Bool.and_eq_false_iff]
          exact Or.inl (beq_eq_false_iff_ne.mpr hne)
        · rw [if_neg (fun x => c x.2)]
          exact h.1 k (by omega)
      · show F_X11_copies_b2 a1 a2 (fu + 1) (nI j) E = F_X11_copies_b2 a1 a2 fu (nI (j + 1)) (setI E a2 j (E.1 a1 j))
        rw [F_X11_copies_b2, l1, l2, if_neg (show ¬ Int32.ofNat n ≤ nI j from nI_ge hj (by omega)), grd_t (inBe hj (by omega)), grd_t (inBe hj (by omega)), nIc (by omega), bnd_e, bnd_e, nI_1])
    (fun fu E h => by
      show F_X11_copies_b2 a1 a2 (fu + 1) (nI n) E = some E
      rw [F_X11_copies_b2, l1, if_pos (show Int32.ofNat n ≤ nI n from nI_le (Nat.le_refl _) (by omega))])
    n 2000 0 D (by omega) (by omega) ⟨fun k hk => absurd hk (by omega), Sm.refl⟩
  exact ⟨D', e, h1, h2⟩
theorem c_begin {D : Dt} {i x : Nat} {h : Shp} (hi : V (6, i, 0, 0) = true) (hx : x < 6) (r : RCs D x h) : ∃ D', F_X6_begin i x D = some D' ∧ rdS D' i = begS h ∧ Sm (stS i) D D' := by
  obtain ⟨a1, a2, a3, a4, a5, a6, a7⟩ := r
  have vx := V5 hx
  have cr1 : ∀ D, F_X10_copyRow (5, x, 5, 0) (6, i, 1, 0) D = some (cpyI D (5, x, 5, 0) (6, i, 1, 0) 0 0 5) := fun D => c_copyRow (V_f _ vx (by decide)) (V_f _ hi (by decide)) rfl rfl (by decide)
  have cr2 : ∀ D, F_X10_copyRow (5, x, 6, 0) (6, i, 2, 0) D = some (cpyI D (5, x, 6, 0) (6, i, 2, 0) 0 0 5) := fun D => c_copyRow (V_f _ vx (by decide)) (V_f _ hi (by decide)) rfl rfl (by decide)
  have cr3 : ∀ D, F_X10_copyRow (5, x, 7, 0) (6, i, 3, 0) D = some (cpyI D (5, x, 7, 0) (6, i, 3, 0) 0 0 5) := fun D => c_copyRow (V_f _ vx (by decide)) (V_f _ hi (by decide)) rfl rfl (by decide)
  rw [F_X6_begin, grd_t hi, grd_t vx, cr1, vbd_s, cr2, vbd_s, cr3, vbd_s]
  generalize hD3 : cpyI (cpyI (cpyI D (5, x, 5, 0) (6, i, 1, 0) 0 0 5) (5, x, 6, 0) (6, i, 2, 0) 0 0 5) (5, x, 7, 0) (6, i, 3, 0) 0 0 5 = D3
  have m3 : Sm (stS i) D D3 := by
    rw [← hD3]
    have c : ∀ (D : Dt) (a : LA) (q : Nat), Sm (stS i) D (cpyI D a (6, i, q, 0) 0 0 5) := fun D a q => Sm.cp (fun k _ _ => stS_t _ _ _ _)
    exact ((c _ _ _).trans (c _ _ _)).trans (c _ _ _)
  have v3 : ∀ k, k < 5 → D3.1 (6, i, 1, 0) k = h.2.2.2.2.1 k ∧ D3.1 (6, i, 2, 0) k = h.2.2.2.2.2.1 k ∧ D3.1 (6, i, 3, 0) k = h.2.2.2.2.2.2.1 k := fun k hk => by
    obtain ⟨b1, b2, b3⟩ := a5 k hk
    rw [← hD3]
    refine ⟨?_, ?_, ?_⟩
    · rw [cp_ne (by simp), cp_ne (by simp), cp_in hk, b1]
    · rw [cp_ne (by simp), cp_in hk, cp_ne (by simp), b2]
    · rw [cp_in hk, cp_ne (by simp), cp_ne (by simp), b3]
  obtain ⟨D4, ⟨p1, p2⟩, e4⟩ := lpC (fun fu j E => F_X6_begin_b35 i x (fun D12 => (bnd (setI D12 (6, i, 0, 0) 5 (D12.1 (5, x, 0, 0) 1)) (fun D13 => (bnd (setI D13 (6, i, 0, 0) 6 (0 : Int32)) (fun D14 => (bnd (setI D14 (6, i, 0, 0) 7 (0 : Int32)) (fun D15 => (some D15)))))))) fu (nI j) E) (fun j E => (∀ k, k < j → E.1 (6, i, 4, 0) k = 0 ∧ E.1 (6, i, 5, 0) k = -1) ∧ Sm (fun la k => la == (6, i, 4, 0) || la == (6, i, 5, 0)) D3 E) 5 (fun D12 => (bnd (setI D12 (6, i, 0, 0) 5 (D12.1 (5, x, 0, 0) 1)) (fun D13 => (bnd (setI D13 (6, i, 0, 0) 6 (0 : Int32)) (fun D14 => (bnd (setI D14 (6, i, 0, 0) 7 (0 : Int32)) (fun D15 => (some D15))))))))
    (fun fu j E hj hh => by
      refine ⟨setI (setI E (6, i, 4, 0) j 0) (6, i, 5, 0) j (-1), ⟨fun k hk => ?_, hh.2.trans ((Sm.sI (by simp)).trans (Sm.sI (by simp)))⟩, ?_⟩
      · rw [gI, if_neg (by simp), gI, gI]
        by_cases c : k = j
        · rw [if_pos ⟨rfl, c⟩, if_pos ⟨rfl, c⟩]
          exact ⟨rfl, rfl⟩
        · rw [if_neg (fun y => c y.2), if_neg (fun y => c y.2), gI, if_neg (by simp)]
          exact hh.1 k (by omega)
      · show F_X6_begin_b35 i x _ (fu + 1) (nI j) E = F_X6_begin_b35 i x _ fu (nI (j + 1)) _
        rw [F_X6_begin_b35, if_neg (show ¬ (5 : Int32) ≤ nI j from nI_ge (b := 5) hj (by decide)), grd_t (inBe hj (by decide)), nIc (by omega), bnd_e, bnd_e, bnd_e, nI_1])
    (fun fu E hh => by
      show F_X6_begin_b35 i x _ (fu + 1) (nI 5) E = _
      rw [F_X6_begin_b35, if_pos (show (5 : Int32) ≤ nI 5 by decide)])
    5 2000 0 D3 (by omega) (by omega) ⟨fun k hk => absurd hk (by omega), Sm.refl⟩
  rw [show F_X6_begin_b35 i x _ 2000 0 D3 = _ from e4, bnd_e, bnd_e, bnd_e]
  have m4 : Sm (stS i) D3 D4 := p2.mono (fun la k e => by
    simp only [Bool.or_eq_false_iff, beq_eq_false_iff_ne]
    refine ⟨fun y => ?_, fun y => ?_⟩ <;> (rw [y, stS_t] at e; cases e))
  have hrate : D4.1 (5, x, 0, 0) 1 = h.2.1 := by rw [m4.i (by simp [stS]), m3.i (by simp [stS]), a2]
  refine ⟨_, rfl, ?_, ((m3.trans m4).trans (Sm.sI (stS_t _ _ _ _))).trans ((Sm.sI (stS_t _ _ _ _)).trans (Sm.sI (stS_t _ _ _ _)))⟩
  rw [hrate]
  have w1 : ∀ q k, q ≠ 0 → (setI (setI (setI D4 (6, i, 0, 0) 5 h.2.1) (6, i, 0, 0) 6 0) (6, i, 0, 0) 7 0).1 (6, i, q, 0) k = D4.1 (6, i, q, 0) k := fun q k hq => by
    rw [gI, if_neg (by simp [hq]), gI, if_neg (by simp [hq]), gI, if_neg (by simp [hq])]
  funext q k
  simp only [rdS, rdX, begS]
  by_cases c1 : q < 5 ∧ k < 5
  · rw [if_pos c1, if_pos c1, w1 _ _ (by omega)]
    obtain ⟨b1, b2, b3⟩ := v3 k c1.2
    obtain ⟨b4, b5⟩ := p1 k c1.2
    have : q = 0 ∨ q = 1 ∨ q = 2 ∨ q = 3 ∨ q = 4 := by omega
    rcases this with rfl | rfl | rfl | rfl | rfl
    · rw [if_pos rfl, p2.i (by simp)]; exact b1
    · rw [if_neg (by decide), if_pos rfl, p2.i (by simp)]; exact b2
    · rw [if_neg (by decide), if_neg (by decide), if_pos rfl, p2.i (by simp)]; exact b3
    · rw [if_neg (by decide), if_neg (by decide), if_neg (by decide), if_pos rfl]; exact b4
    · rw [if_neg (by decide), if_neg (by decide), if_neg (by decide), if_neg (by decide)]; exact b5
  · rw [if_neg c1, if_neg c1]
    by_cases c2 : q = 5 ∧ k < 3
    · rw [if_pos c2, if_pos c2]
      have : k = 0 ∨ k = 1 ∨ k = 2 := by omega
      rcases this with rfl | rfl | rfl
      · rw [gI, if_neg (by simp), gI, if_neg (by simp), gI_s]; rfl
      · rw [gI, if_neg (by simp), gI_s]; rfl
      · rw [gI_s]; rfl
    · rw [if_neg c2, if_neg c2]
theorem moL_toInt {a : Nat} (h : a < 100000) : (moL a).toInt = (a : Int) - 1 := by
  unfold moL
  by_cases c : a = 0
  · rw [if_pos c, c]; rfl
  · rw [if_neg c, nI_toInt (by omega)]; omega
theorem moL_lt {a b : Nat} (ha : a < 100000) (hb : b < 100000) : moL a < moL b ↔ a < b := by rw [fa_lt, moL_toInt ha, moL_toInt hb]; omega
theorem moL_s (a : Nat) : moL (a + 1) = nI a := by unfold moL; rw [if_neg (by omega)]; rfl
theorem moL_eq {a b : Nat} (ha : a < 100000) (hb : b < 100000) : moL a = moL b ↔ a = b := by rw [fa_eq, moL_toInt ha, moL_toInt hb]; omega
theorem c_lastNote {A : Al} {D : Dt} (hA : okA A) (h : RC D A) : ∃ M, M ≤ 61 ∧ F_X9_lastNote 0 D = some (moL M, D) ∧ ∀ j, j < woN (alW A) → ∀ x, x ≤ 60 → woNw (alW A) j = nI x → x < M := by
  obtain ⟨_, _, _, _, _, n10, n6, n7, _⟩ := h.1
  have hno := hA.1.2.2.2.2.2.2.2.2.1
  generalize hN : woN (alW A) = N at n10 n6 n7 hno
  rw [F_X9_lastNote, grd_t (V9 (by decide))]
  have key2 : ∀ (m fu j M : Nat), j + m = N → m < fu → M ≤ 61 → (∀ j', j' < j → ∀ x, x ≤ 60 → woNw (alW A) j' = nI x → x < M) → ∃ M', M' ≤ 61 ∧ F_X9_lastNote_b4 0 fu (moL M) (nI j) D = some (moL M', D) ∧ ∀ j', j' < N → ∀ x, x ≤ 60 → woNw (alW A) j' = nI x → x < M' := by
    intro m
    induction m with
    | zero =>
      intro fu j M hj hf hM hl
      obtain ⟨fu, rfl⟩ : ∃ g, fu = g + 1 := ⟨fu - 1, by omega⟩
      have : j = N := by omega
      subst this
      rw [F_X9_lastNote_b4, n6, if_pos (nI_le (Nat.le_refl _) (by omega))]
      exact ⟨M, hM, rfl, hl⟩
    | succ m ih =>
      intro fu j M hj hf hM hl
      obtain ⟨fu, rfl⟩ : ∃ g, fu = g + 1 := ⟨fu - 1, by omega⟩
      obtain ⟨⟨x, hx, ex⟩, _⟩ := hno j (by omega)
      rw [F_X9_lastNote_b4, n6, if_neg (nI_ge (by omega) (by omega)), grd_t (inBe (show j < 10 by omega) (by decide)), nIc (by omega), (n7 j (by omega)).1, ex, bnd_e, bnd_e, nI_1, ← moL_s x]
      have hx1 : x + 1 < 100000 := by omega
      have hM1 : M < 100000 := by omega
      have hn : ∀ M', M ≤ M' → x < M' → ∀ j', j' < j + 1 → ∀ y, y ≤ 60 → woNw (alW A) j' = nI y → y < M' := by
        intro M' h1 h2 j' hj' y hy ey
        by_cases c : j' = j
        · subst c
          rw [ex] at ey
          have := (nI_eq (by omega) (by omega)).mp ey
          omega
        · have := hl j' (by omega) y hy ey
          omega
      by_cases c : M < x + 1
      · rw [if_pos ((moL_lt hM1 hx1).mpr c)]
        exact ih fu (j + 1) (x + 1) (by omega) (by omega) (by omega) (hn _ (by omega) (by omega))
      · rw [if_neg (fun g => c ((moL_lt hM1 hx1).mp g))]
        exact ih fu (j + 1) M (by omega) (by omega) hM (hn _ (Nat.le_refl _) (by omega))
  obtain ⟨M, h1, h2, h3⟩ := key2 N 2000 0 0 (by omega) (by omega) (by omega) (fun j' hj' => absurd hj' (by omega))
  exact ⟨M, h1, h2, h3⟩
/-- the NOTES of a WEEK are so -/
def nHold (W : Wo) (g : Nat → Int32) (i : Nat) : Prop := ∀ j, j < woN W → woNw W j = nI i → g (woNl W j).toNatClampNeg = woNf W j
theorem c_notesHold {A : Al} {D : Dt} {i : Nat} (hA : okA A) (h : RC D A) : ∃ r, F_X9_notesHold 0 (nI i) (6, 105, 5, 0) D = some (r, D) ∧ (r = 1 ∧ nHold (alW A) (rdS D 105 4) i ∨ r = 0 ∧ ¬ nHold (alW A) (rdS D 105 4) i) := by
  obtain ⟨_, _, _, _, _, n10, n6, n7, _⟩ := h.1
  have hno := hA.1.2.2.2.2.2.2.2.2.1
  have hn := hA.1.1
  unfold nHold
  generalize hN : woN (alW A) = N at n10 n6 n7 hno
  rw [F_X9_notesHold, grd_t (V9 (by decide)), grd_t ⟨by decide, by decide⟩]
  have hlen : lenOf (6, 105, 5, 0) = 5 := by decide
  have key : ∀ (m fu j : Nat), j + m = N → m < fu → (∀ j', j' < j → woNw (alW A) j' = nI i → rdS D 105 4 (woNl (alW A) j').toNatClampNeg = woNf (alW A) j') → ∃ r, F_X9_notesHold_b2 0 (nI i) (6, 105, 5, 0) fu (nI i) (nI j) D = some (r, D) ∧ (r = 1 ∧ (∀ j', j' < N → woNw (alW A) j' = nI i → rdS D 105 4 (woNl (alW A) j').toNatClampNeg = woNf (alW A) j') ∨ r = 0 ∧ ¬ (∀ j', j' < N → woNw (alW A) j' = nI i → rdS D 105 4 (woNl (alW A) j').toNatClampNeg = woNf (alW A) j')) := by
    intro m
    induction m with
    | zero =>
      intro fu j hj hf hl
      obtain ⟨fu, rfl⟩ : ∃ g, fu = g + 1 := ⟨fu - 1, by omega⟩
      have : j = N := by omega
      subst this
      rw [F_X9_notesHold_b2, n6, if_pos (nI_le (Nat.le_refl _) (by omega))]
      exact ⟨1, rfl, Or.inl ⟨rfl, hl⟩⟩
    | succ m ih =>
      intro fu j hj hf hl
      obtain ⟨fu, rfl⟩ : ∃ g, fu = g + 1 := ⟨fu - 1, by omega⟩
      obtain ⟨_, ⟨y, hy, ey⟩⟩ := hno j (by omega)
      obtain ⟨b1, b2, b3⟩ := n7 j (by omega)
      rw [F_X9_notesHold_b2, n6, if_neg (nI_ge (by omega) (by omega)), grd_t (inBe (show j < 10 by omega) (by decide)), nIc (by omega), b1, b2, b3, ey, hlen, grd_t (inBe (show y < 5 by omega) (by decide)), nIc (k := y) (by omega), s_from (by omega)]
      simp only [F_X9_notesHold_b39, bnd_e, nI_1]
      have nx : (woNw (alW A) j = nI i → rdS D 105 4 y = woNf (alW A) j) → _ := fun hh => ih fu (j + 1) (by omega) (by omega) (fun j' hj' e => by
        by_cases c : j' = j
        · subst c
          rw [ey, nIc (by omega)]
          exact hh e
        · exact hl j' (by omega) e)
      by_cases c1 : woNw (alW A) j = nI i
      · rw [if_pos c1]
        by_cases c2 : rdS D 105 4 y = woNf (alW A) j
        · rw [if_pos c2]
          exact nx (fun _ => c2)
        · rw [if_neg c2]
          refine ⟨0, rfl, Or.inr ⟨rfl, fun g => c2 ?_⟩⟩
          have := g j (by omega) c1
          rw [ey, nIc (by omega)] at this
          exact this
      · rw [if_neg c1]
        exact nx (fun e => absurd e c1)
  exact key N 2000 0 (by omega) (by omega) (fun j' hj' => absurd hj' (by omega))
def frm (A : Al) (f : Int32) (n k : Nat) : Int32 := sI (cfX A f 0 0 (-1) (-1)) (n + 1) (begS (woH (alW A))) 4 k
def notB (A : Al) (f : Int32) : Bool := decide (∀ j, j < woN (alW A) → frm A f (woNw (alW A) j).toNatClampNeg (woNl (alW A) j).toNatClampNeg = woNf (alW A) j)
def isS (t : Nat) : LA → Nat → Bool := fun la _ => (la.1 == 6 && la.2.1 == 105) || la.1 == 8 || (la.1 == 3 && la.2.2.1 == 8) || la == (1, 0, 9, t + 1)
theorem isS_q {t : Nat} {D D' : Dt} (s : Sm (isS t) D D') : Sm qS D D' := s.mono (fun la k e => by
  simp only [qS, isS, Bool.or_eq_false_iff, Bool.and_eq_false_iff, decide_eq_false_iff_not, beq_eq_false_iff_ne] at e ⊢
  refine ⟨⟨⟨by omega, by omega⟩, by omega⟩, fun y => ?_⟩
  have := e.1.1.2
  rw [y] at this
  exact this rfl)
theorem isS_we {t : Nat} {D D' : Dt} (s : Sm (weS 1 105) D D') : Sm (isS t) D D' := s.mono (fun la k e => by
  simp only [weS, isS, Bool.or_eq_false_iff, Bool.and_eq_false_iff, beq_eq_false_iff_ne] at e ⊢
  omega)
theorem isF_mo {A : Al} {t : Nat} (h : t ≤ alN A) : isF A (moL t) := by
  unfold moL
  by_cases c : t = 0
  · rw [if_pos c]; exact Or.inl rfl
  · rw [if_neg c]; exact Or.inr ⟨t - 1, by omega, rfl⟩
theorem beg_wk {h : Shp} : begS h 5 1 = nI 0 := rfl
theorem c_isSo {A : Al} {D : Dt} {t K : Nat} (hA : okA A) (ht : (woH (alW A)).1 = true) (h : RC D A) (htN : t ≤ alN A) (hK : K ≤ 61) : ∃ D', F_X1_isSo (moL t) (moL K) D = some ((if notB A (moL t) = true then 1 else 0), D') ∧ Sm (isS t) D D' ∧ (notB A (moL t) = true → ∀ x, K = x + 1 → ∀ k, k < 5 → D'.1 (1, 0, 9, t + 1) k = frm A (moL t) x k) := by
  have hf := isF_mo (A := A) htN
  have hN6 := hA.2.2.1
  obtain ⟨D1, e1, r1, m1⟩ := c_begin (i := 105) (V6 (by decide)) (by decide) h.1.1
  have s1 : Sm (isS t) D D1 := isS_we (stS_we m1)
  have h1 := h.scr (isS_q s1)
  obtain ⟨D2, e2, c2, q2, _, s2⟩ := c_follow (q := 1) V81 h1 hA ht hf
  have s2' : Sm (isS t) D1 D2 := s2.mono (fun la k e => by
    rw [beq_eq_false_iff_ne]
    rintro rfl
    simp [isS] at e)
  have h2 := h1.scr (isS_q s2')
  obtain ⟨M, hM, eM, hMn⟩ := c_lastNote hA h2
  rw [F_X1_isSo, e1, vbd_s, c_ruleOf hA hf, cbd_s, e2, vbd_s, eM, cbd_s, bnd_e]
  have hmx : (if moL K < moL M then moL M else moL K) = moL (max K M) := by
    by_cases c : K < M
    · rw [if_pos ((moL_lt (by omega) (by omega)).mpr c), Nat.max_eq_right (by omega)]
    · rw [if_neg (fun g => c ((moL_lt (by omega) (by omega)).mp g)), Nat.max_eq_left (by omega)]
  rw [hmx]
  have hX1 : max K M ≤ 61 := by omega
  have hX2 : K ≤ max K M := by omega
  have hX3 : M ≤ max K M := by omega
  generalize max K M = X at hX1 hX2 hX3
  have rs2 : rdS D2 105 = begS (woH (alW A)) := by rw [rdS_sm s2 (fun q k => by simp), r1]
  have hno := hA.1.2.2.2.2.2.2.2.2.1
  have hno' : notB A (moL t) = true ↔ ∀ i, i < X → nHold (alW A) (frm A (moL t) i) i := by
    unfold notB
    rw [decide_eq_true_eq]
    constructor
    · intro g i hi j hj e
      have := g j hj
      rw [e, nIc (by omega)] at this
      exact this
    · intro g j hj
      obtain ⟨⟨x, hx, ex⟩, _⟩ := hno j hj
      have hxM := hMn j hj x hx ex
      rw [ex, nIc (by omega)]
      exact g x (by omega) j hj ex
  have key : ∀ (m fu i : Nat) (E : Dt), i + m = X → m < fu → QC A E (cfX A (moL t) 0 0 (-1) (-1)) 105 (sI (cfX A (moL t) 0 0 (-1) (-1)) i (begS (woH (alW A)))) → (∀ i', i' < i → nHold (alW A) (frm A (moL t) i') i') → (∀ x, K = x + 1 → x < i → ∀ k, k < 5 → E.1 (1, 0, 9, t + 1) k = frm A (moL t) x k) → ∃ D', F_X1_isSo_b51 (moL t) (moL K) fu (moL t) (moL K) (moL X) (nI i) E = some ((if notB A (moL t) = true then 1 else 0), D') ∧ Sm (isS t) E D' ∧ (notB A (moL t) = true → ∀ x, K = x + 1 → ∀ k, k < 5 → D'.1 (1, 0, 9, t + 1) k = frm A (moL t) x k) := by
    intro m
    induction m with
    | zero =>
      intro fu i E hi hf q hl hr
      obtain ⟨fu, rfl⟩ : ∃ g, fu = g + 1 := ⟨fu - 1, by omega⟩
      have : i = X := by omega
      subst this
      rw [F_X1_isSo_b51, ← moL_s i, if_pos ((moL_lt (by omega) (by omega)).mpr (by omega)), if_pos (hno'.mpr hl)]
      exact ⟨E, rfl, Sm.refl, fun _ x hx => hr x hx (by omega)⟩
    | succ m ih =>
      intro fu i E hi hf q hl hr
      obtain ⟨fu, rfl⟩ : ∃ g, fu = g + 1 := ⟨fu - 1, by omega⟩
      obtain ⟨E1, e1, q1, m1⟩ := qc_pass (by decide) (by decide) q rfl (sI_wk (w := 0) beg_wk i) (by omega)
      obtain ⟨r, er, hr2⟩ := c_notesHold (i := i) hA q1.1
      have hfr : rdS E1 105 4 = frm A (moL t) i := by rw [q1.2.2.2]; rfl
      rw [hfr] at hr2
      have hno1 : ¬ moL X < nI i := by rw [← moL_s i]; exact fun g => by have := (moL_lt (by omega) (by omega)).mp g; omega
      rw [F_X1_isSo_b51, if_neg hno1, e1, cbd_s, er, cbd_s]
      rcases hr2 with ⟨rfl, hh⟩ | ⟨rfl, hh⟩
      · rw [if_neg (by decide)]
        have hl1 : ∀ i', i' < i + 1 → nHold (alW A) (frm A (moL t) i') i' := fun i' hi' => by
          by_cases c : i' = i
          · rw [c]; exact hh
          · exact hl i' (by omega)
        simp only [F_X1_isSo_b114, bnd_e, nI_1]
        by_cases c : nI i = moL K
        · have hKi : K = i + 1 := by
            rw [← moL_s i] at c
            exact ((moL_eq (by omega) (by omega)).mp c).symm
          rw [if_pos c, moL_1, moL_s, grd_t (inBe (show t < 7 by omega) (by decide)), nIc (by omega)]
          have hV : V (1, 0, 9, t + 1) = true := by
            have : t < 7 := by omega
            simp [V, nO, arT, this]
          rw [c_copyRow (n := 5) (by decide) hV rfl rfl (by decide), vbd_s]
          have m2 : Sm (fun la _ => la.1 == 1) E1 (cpyI E1 (6, 105, 5, 0) (1, 0, 9, t + 1) 0 0 5) := Sm.cp (fun k _ _ => by simp)
          have m2' : Sm (isS t) E1 (cpyI E1 (6, 105, 5, 0) (1, 0, 9, t + 1) 0 0 5) := Sm.cp (fun k _ _ => by simp [isS])
          obtain ⟨E3, e3, s3, v3⟩ := ih fu (i + 1) _ (by omega) (by omega) (qc_one q1 m2) hl1 (fun x hx _ k hk => by
            have : x = i := by omega
            rw [cp_in hk, s_from hk, hfr, this])
          exact ⟨E3, e3, ((isS_we m1).trans m2').trans s3, v3⟩
        · rw [if_neg c]
          obtain ⟨E3, e3, s3, v3⟩ := ih fu (i + 1) E1 (by omega) (by omega) q1 hl1 (fun x hx hxi k hk => by
            have hne : x ≠ i := fun y => c (by rw [hx, y, moL_s])
            rw [m1.i (by simp [weS])]
            exact hr x hx (by omega) k hk)
          exact ⟨E3, e3, (isS_we m1).trans s3, v3⟩
      · have hnot : ¬ notB A (moL t) = true := fun g => hh (hno'.mp g i (by omega))
        rw [if_pos rfl, if_neg hnot]
        exact ⟨E1, rfl, isS_we m1, fun g => absurd g hnot⟩
  obtain ⟨D3, e3, s3, v3⟩ := key X 2000 0 D2 (by omega) (by omega) ⟨h2, c2, q2, rs2⟩ (fun i' hi' => absurd hi' (by omega)) (fun x _ hx => absurd hx (by omega))
  exact ⟨D3, e3, (s1.trans s2').trans s3, v3⟩
