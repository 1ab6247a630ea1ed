theorem qg_goesx {A : Al} {D0 D : Dt} {f h i o d : Int32} {s : St} {w : Nat} (hA : okA A) (hf : isF A f) (g : QG A D0 D f h i (-1) o d s) (hg : Gd (shN (woH (alW A))) s) (hw : s 5 1 = nI w) (hw2 : w < 100000) : ∃ D', F_X11_goes D = some (wN (cfX A f h i (-1) o) s, D') ∧ QG A D0 D' f h i (-1) o d (wS (cfX A f h i (-1) o) s) ∧ Sm moS D D' := by
  have hs : rdM D = s := g.2.2.2.2.2.2.2.2.1
  obtain ⟨D', e, r, _, m⟩ := r_goes (D := D) (w := w) (m := false) 0 (cfX_ok hA) (qg_cfm hA hf g (Or.inl rfl)) (by rw [hs]; exact hg) (by rw [hs]; exact hw) hw2 (Or.inl rfl)
  rw [hs] at e r
  exact ⟨D', e, qg_mo g m r, m⟩
theorem qg_laysx {A : Al} {D0 D : Dt} {f h i c o d : Int32} {s : St} (g : QG A D0 D f h i c o d s) : ∃ D', F_X11_laysBack D = some D' ∧ QG A D0 D' (woC (alW A)) h i c o (woD (alW A)) (woS (alW A)) ∧ (∀ q k, 47 ≤ q → q ≤ 54 → D'.1 (11, 0, q, 0) k = D.1 (11, 0, q, 0) k) ∧ D'.1 (11, 0, 0, 0) 43 = D.1 (11, 0, 0, 0) 43 := by
  obtain ⟨D1, e1, g1⟩ := qg_lays g
  obtain ⟨D', e, b⟩ := r_carry4B (D := D)
  have e2 : F_X11_laysBack D = some D' := by rw [F_X11_laysBack, e, vbd_s]
  rw [e2] at e1
  simp only [Option.some.injEq] at e1
  subst e1
  refine ⟨D', e2, g1, fun q k h1 h2 => b.2.2.2.1 _ _ (fun q' hq' x => ?_) (fun x => ?_) (fun x => ?_), b.2.2.2.1 _ _ (fun q' hq' x => ?_) (by simp) (by simp)⟩
  · obtain ⟨y, a1, a2, a3⟩ := lvA_y q' hq'
    rw [a1] at x
    simp at x
    omega
  · simp at x
    omega
  · simp at x
    omega
  · obtain ⟨y, a1, a2, a3⟩ := lvA_y q' hq'
    rw [a1] at x
    simp at x
    omega
theorem qg_w {A : Al} {D0 D D' : Dt} {f h i c o d : Int32} {s : St} (g : QG A D0 D f h i c o d s) (m : Sm (fun la _ => la.1 == 11 && decide (50 ≤ la.2.2.1 ∧ la.2.2.1 ≤ 54)) D D') : QG A D0 D' f h i c o d s := by
  obtain ⟨g1, g2, g3, g4, g5, g6, g7, g8, g9, g10⟩ := g
  have mq : Sm qmS D D' := m.mono (fun la k e => by
    simp only [qmS, Bool.or_eq_false_iff, Bool.and_eq_false_iff, decide_eq_false_iff_not, beq_eq_false_iff_ne] at e ⊢
    omega)
  refine ⟨g1, g2.trans mq, fun q k hq hk => ?_, ?_, ?_, ?_, ?_, ?_, ?_, ?_⟩
  · rw [m.i (by simp)]; exact g3 q k hq hk
  · rw [m.i (by simp)]; exact g4
  · rw [m.i (by simp)]; exact g5
  · rw [m.i (by simp)]; exact g6
  · rw [m.i (by simp)]; exact g7
  · rw [m.i (by simp)]; exact g8
  · rw [rdM_sm m (fun q k hq _ => by simp; omega) (fun k _ => by simp)]; exact g9
  · rw [m.i (by simp)]; exact g10
theorem qg_f {A : Al} {D0 D : Dt} {f h i c o d v : Int32} {s : St} (g : QG A D0 D f h i c o d s) : QG A D0 (setI D (11, 0, 2, 0) 8 v) v h i c o d s := by
  obtain ⟨g1, g2, g3, g4, g5, g6, g7, g8, g9, g10⟩ := g
  have m : Sm (fun la k => la == (11, 0, 2, 0) && k == 8) D (setI D (11, 0, 2, 0) 8 v) := Sm.sI (by simp)
  refine ⟨g1, g2.trans (Sm.sI (by simp [qmS])), fun q k hq hk => ?_, gI_s, ?_, ?_, ?_, ?_, ?_, ?_⟩
  · rw [m.i (by simp)]; exact g3 q k hq hk
  · rw [m.i (by simp)]; exact g5
  · rw [m.i (by simp)]; exact g6
  · rw [m.i (by simp)]; exact g7
  · rw [m.i (by simp)]; exact g8
  · rw [rdM_sm m (fun q k _ _ => by simp) (fun k hk => by have : ¬ k = 5 := by omega
                                                          simp [this])]; exact g9
  · rw [m.i (by simp)]; exact g10
theorem r_begins {D : Dt} {h : Shp} (h0 : D.1 (11, 0, 2, 0) 0 = h.2.1) (ht : ∀ k, k < 5 → D.1 (11, 0, 12, 0) k = h.2.2.2.2.1 k ∧ D.1 (11, 0, 13, 0) k = h.2.2.2.2.2.1 k ∧ D.1 (11, 0, 14, 0) k = h.2.2.2.2.2.2.1 k) : ∃ D', F_X11_begins D = some D' ∧ rdM D' = begS h ∧ Sm stM D D' := by
  obtain ⟨D1, e1, v1, m1⟩ := r_copies (D := D) (a1 := (11, 0, 12, 0)) (a2 := (11, 0, 3, 0)) (n := 5) (by decide) (by decide) rfl rfl (by decide) (by decide)
  obtain ⟨D2, e2, v2, m2⟩ := r_copies (D := D1) (a1 := (11, 0, 13, 0)) (a2 := (11, 0, 4, 0)) (n := 5) (by decide) (by decide) rfl rfl (by decide) (by decide)
  obtain ⟨D3, e3, v3, m3⟩ := r_copies (D := D2) (a1 := (11, 0, 14, 0)) (a2 := (11, 0, 5, 0)) (n := 5) (by decide) (by decide) rfl rfl (by decide) (by decide)
  have h03 : D3.1 (11, 0, 2, 0) 0 = h.2.1 := by rw [m3.i (by simp), m2.i (by simp), m1.i (by simp), h0]
  rw [F_X11_begins, e1, vbd_s, e2, vbd_s, e3, vbd_s, bnd_e, bnd_e, bnd_e, h03]
  generalize hD4 : setI (setI (setI D3 (11, 0, 2, 0) 3 h.2.1) (11, 0, 2, 0) 4 0) (11, 0, 2, 0) 5 0 = D4
  have m4 : Sm (fun la k => la == (11, 0, 2, 0) && decide (3 ≤ k ∧ k ≤ 5)) D3 D4 := by
    rw [← hD4]
    exact ((Sm.sI (by simp)).trans (Sm.sI (by simp))).trans (Sm.sI (by simp))
  obtain ⟨D5, ⟨p1, p2⟩, e5⟩ := lpC (fun fu j E => F_X11_begins_b61 fu (nI j) E) (fun j E => (∀ k, k < j → E.1 (11, 0, 6, 0) k = 0 ∧ E.1 (11, 0, 7, 0) k = -1) ∧ Sm (fun la k => la == (11, 0, 6, 0) || la == (11, 0, 7, 0)) D4 E) 5 some
    (fun fu j E hj hh => by
      refine ⟨setI (setI E (11, 0, 6, 0) j 0) (11, 0, 7, 0) j (-1), ⟨fun k hk => ?_, hh.2.trans ((Sm.sI (by simp)).trans (Sm.sI (by simp)))⟩, ?_⟩
      · rw [gI, if_neg (by simp), gI, gI]
        by_cases c : k = j
        · rw [if_pos ⟨rfl, c⟩, if_pos ⟨rfl, c⟩]
          exact ⟨rfl, rfl⟩
        · rw [if_neg (fun y => c y.2), if_neg (fun y => c y.2), gI, if_neg (by simp)]
          exact hh.1 k (by omega)
      · show F_X11_begins_b61 (fu + 1) (nI j) E = F_X11_begins_b61 fu (nI (j + 1)) _
        rw [F_X11_begins_b61, if_neg (show ¬ (5 : Int32) ≤ nI j from nI_ge (b := 5) hj (by decide)), grd_t (inBe hj (by decide)), nIc (by omega), bnd_e, bnd_e, bnd_e, nI_1])
    (fun fu E hh => by
      show F_X11_begins_b61 (fu + 1) (nI 5) E = _
      rw [F_X11_begins_b61, if_pos (show (5 : Int32) ≤ nI 5 by decide)])
    5 2000 0 D4 (by omega) (by omega) ⟨fun k hk => absurd hk (by omega), Sm.refl⟩
  have ms : Sm stM D D5 := by
    have a1 : Sm stM D D1 := m1.mono (fun la k e => by
      rw [Bool.and_eq_false_iff, beq_eq_false_iff_ne]; left; rintro rfl; simp [stM] at e)
    have a2 : Sm stM D1 D2 := m2.mono (fun la k e => by
      rw [Bool.and_eq_false_iff, beq_eq_false_iff_ne]; left; rintro rfl; simp [stM] at e)
    have a3 : Sm stM D2 D3 := m3.mono (fun la k e => by
      rw [Bool.and_eq_false_iff, beq_eq_false_iff_ne]; left; rintro rfl; simp [stM] at e)
    have a4 : Sm stM D3 D4 := m4.mono (fun la k e => by
      rw [Bool.and_eq_false_iff]
      by_cases c : la = (11, 0, 2, 0)
      · right
        rw [c] at e
        simp [stM] at e
        simp
        omega
      · left
        exact beq_eq_false_iff_ne.mpr c)
    have a5 : Sm stM D4 D5 := p2.mono (fun la k e => by
      simp only [Bool.or_eq_false_iff, beq_eq_false_iff_ne]
      refine ⟨?_, ?_⟩ <;> (rintro rfl; simp [stM] at e))
    exact (((a1.trans a2).trans a3).trans a4).trans a5
  refine ⟨D5, e5, ?_, ms⟩
  funext q k
  simp only [rdM, rdX, begS]
  by_cases c1 : q < 5 ∧ k < 5
  · rw [if_pos c1, if_pos c1]
    obtain ⟨b1, b2, b3⟩ := ht k c1.2
    obtain ⟨b4, b5⟩ := p1 k c1.2
    have : q = 0 ∨ q = 1 ∨ q = 2 ∨ q = 3 ∨ q = 4 := by omega
    rcases this with rfl | rfl | rfl | rfl | rfl
    · rw [if_pos rfl, ← b1, ← v1 k c1.2]
      exact ((p2.i (by simp)).trans (m4.i (by simp))).trans ((m3.i (by simp)).trans (m2.i (by simp)))
    · rw [if_neg (by decide), if_pos rfl, ← b2, ← m1.i (show ((fun la k => la == (11, 0, 3, 0) && decide (k < 5)) : LA → Nat → Bool) (11, 0, 13, 0) k = false by simp), ← v2 k c1.2]
      exact ((p2.i (by simp)).trans (m4.i (by simp))).trans (m3.i (by simp))
    · rw [if_neg (by decide), if_neg (by decide), if_pos rfl, ← b3, ← m1.i (show ((fun la k => la == (11, 0, 3, 0) && decide (k < 5)) : LA → Nat → Bool) (11, 0, 14, 0) k = false by simp), ← m2.i (show ((fun la k => la == (11, 0, 4, 0) && decide (k < 5)) : LA → Nat → Bool) (11, 0, 14, 0) k = false by simp), ← v3 k c1.2]
      exact (p2.i (by simp)).trans (m4.i (by simp))
    · rw [if_neg (by decide), if_neg (by decide), if_neg (by decide), if_pos rfl]; exact b4
    · rw [if_neg (by decide), if_neg (by decide), if_neg (by decide), if_neg (by decide)]; exact b5
  · rw [if_neg c1, if_neg c1]
    by_cases c2 : q = 5 ∧ k < 3
    · rw [if_pos c2, if_pos c2, p2.i (by simp), ← hD4]
      have : k = 0 ∨ k = 1 ∨ k = 2 := by omega
      rcases this with rfl | rfl | rfl
      · rw [gI, if_neg (by simp), gI, if_neg (by simp), gI_s]; rfl
      · rw [gI, if_neg (by simp), gI_s]; rfl
      · rw [gI_s]; rfl
    · rw [if_neg c2, if_neg c2]
theorem qg_begins {A : Al} {D0 D : Dt} {f h i c o d : Int32} {s : St} (g : QG A D0 D f h i c o d s) : ∃ D', F_X11_begins D = some D' ∧ QG A D0 D' f h i c o d (begS (woH (alW A))) ∧ Sm stM D D' := by
  obtain ⟨r1, r2, r3, r4, r5, r6, r7, r8, r9, r10, r11, r12, r13, r14⟩ := g.1.1
  obtain ⟨D', e, r, m⟩ := r_begins (D := D) (h := woH (alW A)) (by rw [g.2.1.i (by simp [qmS])]; exact r1) (fun k hk => by
    rw [g.2.1.i (by simp [qmS]), g.2.1.i (by simp [qmS]), g.2.1.i (by simp [qmS])]
    exact r14 k hk)
  exact ⟨D', e, qg_st g m r, m⟩
theorem r_layRow {n : Nat} {a1 : Int32} {kk : Int32 → Dt → Option (Int32 × Dt)} {D : Dt} (hn : n < 61) : ∃ D', F_X11_couldRule_b27 a1 kk 2000 (nI n) 0 D = kk (nI n) D' ∧ (∀ k, k < 5 → D'.1 (11, 0, 53, 0) (5 * n + k) = D.1 (11, 0, 7, 0) k) ∧ Sm (fun la k => la == (11, 0, 53, 0) && decide (5 * n ≤ k ∧ k < 5 * n + 5)) D D' := by
  obtain ⟨D', ⟨p1, p2⟩, e⟩ := lpC (fun fu j E => F_X11_couldRule_b27 a1 kk fu (nI n) (nI j) E) (fun j E => (∀ k, k < j → E.1 (11, 0, 53, 0) (5 * n + k) = D.1 (11, 0, 7, 0) k) ∧ Sm (fun la k => la == (11, 0, 53, 0) && decide (5 * n ≤ k ∧ k < 5 * n + 5)) D E) 5 (kk (nI n))
    (fun fu j E hj hh => by
      refine ⟨setI E (11, 0, 53, 0) (5 * n + j) (E.1 (11, 0, 7, 0) j), ⟨fun k hk => ?_, hh.2.trans (Sm.sI (by simp [hj]))⟩, ?_⟩
      · rw [gI]
        by_cases c : k = j
        · rw [if_pos ⟨rfl, by omega⟩, c, hh.2.i (by simp)]
        · rw [if_neg (fun y => c (by omega))]
          exact hh.1 k (by omega)
      · show F_X11_couldRule_b27 a1 kk (fu + 1) (nI n) (nI j) E = F_X11_couldRule_b27 a1 kk fu (nI n) (nI (j + 1)) _
        rw [F_X11_couldRule_b27, if_neg (show ¬ (5 : Int32) ≤ nI j from nI_ge (b := 5) hj (by decide)), grd_t (inBe hj (by decide)), show (5 : Int32) = nI 5 from rfl, pk_mul, nI_add, grd_t (inBe (by omega) (by decide)), nIc (by omega), nIc (by omega), bnd_e, bnd_e, nI_1])
    (fun fu E hh => by
      show F_X11_couldRule_b27 a1 kk (fu + 1) (nI n) (nI 5) E = _
      rw [F_X11_couldRule_b27, if_pos (show (5 : Int32) ≤ nI 5 by decide)])
    5 2000 0 D (by omega) (by omega) ⟨fun k hk => absurd hk (by omega), Sm.refl⟩
  exact ⟨D', e, p1, p2⟩
theorem r_could {A : Al} {D0 D : Dt} {f f0 d : Int32} {s : St} (hA : okA A) (hf : isF A f) (g : QG A D0 D f0 0 0 (-1) (-1) d s) : ∃ D', F_X11_couldRule f D = some ((if notB A f = true then 1 else 0), D') ∧ QG A D0 D' (woC (alW A)) 0 0 (-1) (-1) (woD (alW A)) (woS (alW A)) ∧ (∀ n k, n < 61 → k < 5 → D'.1 (11, 0, 53, 0) (5 * n + k) = frm A f n k) ∧ (∀ k, D'.1 (11, 0, 54, 0) k = D.1 (11, 0, 54, 0) k) := by
  rw [F_X11_couldRule, bnd_e]
  obtain ⟨D2, e2, g2, m2⟩ := qg_begins (qg_f (v := f) g)
  rw [e2, vbd_s]
  have hbg : Gd (shN (woH (alW A))) (begS (woH (alW A))) := hA.1.2.2.2.2.2.1
  have hno := hA.1.2.2.2.2.2.2.2.2.1
  obtain ⟨_, _, _, _, w5, _, _, _, _, _, _, w12, w13, _⟩ := g.1.1
  have hNn := hA.1.1
  have fin : ∀ E : Dt, QG A D0 E f 0 0 (-1) (-1) d (sI (cfX A f 0 0 (-1) (-1)) 61 (begS (woH (alW A)))) → (∀ n k, n < 61 → k < 5 → E.1 (11, 0, 53, 0) (5 * n + k) = frm A f n k) → (∀ k, E.1 (11, 0, 54, 0) k = D.1 (11, 0, 54, 0) k) → ∃ D', (vbd (F_X11_laysBack  E) (fun D18 => (F_X11_couldRule_b66 f 2000 (0 : Int32) D18))) = some ((if notB A f = true then 1 else 0), D') ∧ QG A D0 D' (woC (alW A)) 0 0 (-1) (-1) (woD (alW A)) (woS (alW A)) ∧ (∀ n k, n < 61 → k < 5 → D'.1 (11, 0, 53, 0) (5 * n + k) = frm A f n k) ∧ (∀ k, D'.1 (11, 0, 54, 0) k = D.1 (11, 0, 54, 0) k) := by
    intro E gE lE sE
    obtain ⟨E1, e1, g1, k1, _⟩ := qg_laysx gE
    rw [e1, vbd_s]
    have l1 : ∀ n k, n < 61 → k < 5 → E1.1 (11, 0, 53, 0) (5 * n + k) = frm A f n k := fun n k hn hk => by rw [k1 53 _ (by decide) (by decide)]; exact lE n k hn hk
    have x6 : E1.1 (11, 0, 2, 0) 6 = nI (woN (alW A)) := by rw [g1.2.1.i (by simp [qmS])]; exact w5
    have xj : ∀ j, j < woN (alW A) → E1.1 (11, 0, 9, 0) j = woNw (alW A) j ∧ E1.1 (11, 0, 10, 0) j = woNl (alW A) j ∧ E1.1 (11, 0, 11, 0) j = woNf (alW A) j := fun j hj => by
      rw [g1.2.1.i (by simp [qmS]), g1.2.1.i (by simp [qmS]), g1.2.1.i (by simp [qmS])]
      exact w13 j hj
    have key : ∀ (m fu j : Nat), j + m = woN (alW A) → m < fu → (∀ j', j' < j → frm A f (woNw (alW A) j').toNatClampNeg (woNl (alW A) j').toNatClampNeg = woNf (alW A) j') → F_X11_couldRule_b66 f fu (nI j) E1 = some ((if notB A f = true then 1 else 0), E1) := by
      intro m
      induction m with
      | zero =>
        intro fu j hj hf hl
        obtain ⟨fu, rfl⟩ : ∃ g, fu = g + 1 := ⟨fu - 1, by omega⟩
        have hj' : j = woN (alW A) := by omega
        rw [F_X11_couldRule_b66, x6, if_pos (nI_le (by omega) (by omega)), if_pos]
        unfold notB
        rw [decide_eq_true_eq]
        exact fun j' hj2 => hl j' (by omega)
      | succ m ih =>
        intro fu j hj hf hl
        obtain ⟨fu, rfl⟩ : ∃ g, fu = g + 1 := ⟨fu - 1, by omega⟩
        obtain ⟨⟨x, hx, ex⟩, ⟨y, hy, ey⟩⟩ := hno j (by omega)
        obtain ⟨b1, b2, b3⟩ := xj j (by omega)
        rw [F_X11_couldRule_b66, x6, if_neg (nI_ge (by omega) (by omega)), grd_t (inBe (show j < 10 by omega) (by decide)), nIc (by omega), b1, b2, b3, ex, ey, show (5 : Int32) = nI 5 from rfl, pk_mul, nI_add, grd_t (inBe (show 5 * x + y < 305 by omega) (by decide)), nIc (k := 5 * x + y) (by omega), l1 x y (by omega) (by omega), bnd_e, nI_1]
        by_cases c : frm A f x y = woNf (alW A) j
        · rw [if_pos c]
          refine ih fu (j + 1) (by omega) (by omega) (fun j' hj' => ?_)
          by_cases cj : j' = j
          · rw [cj, ex, ey, nIc (by omega), nIc (by omega)]; exact c
          · exact hl j' (by omega)
        · rw [if_neg c, if_neg]
          unfold notB
          rw [decide_eq_true_eq]
          intro gg
          have := gg j (by omega)
          rw [ex, ey, nIc (by omega), nIc (by omega)] at this
          exact c this
    exact ⟨E1, key (woN (alW A)) 2000 0 (by omega) (by omega) (fun j' hj' => absurd hj' (by omega)), g1, l1, fun k => by rw [k1 54 _ (by decide) (by decide)]; exact sE k⟩
  have key : ∀ (m fu n : Nat) (E : Dt), n + m = 61 → m < fu → QG A D0 E f 0 0 (-1) (-1) d (sI (cfX A f 0 0 (-1) (-1)) n (begS (woH (alW A)))) → (∀ n' k, n' < n → k < 5 → E.1 (11, 0, 53, 0) (5 * n' + k) = frm A f n' k) → (∀ k, E.1 (11, 0, 54, 0) k = D.1 (11, 0, 54, 0) k) → ∃ D', F_X11_couldRule_b14 f (fun D16 => (vbd (F_X11_laysBack  D16) (fun D18 => (F_X11_couldRule_b66 f 2000 (0 : Int32) D18)))) fu (nI n) E = some ((if notB A f = true then 1 else 0), D') ∧ QG A D0 D' (woC (alW A)) 0 0 (-1) (-1) (woD (alW A)) (woS (alW A)) ∧ (∀ n k, n < 61 → k < 5 → D'.1 (11, 0, 53, 0) (5 * n + k) = frm A f n k) ∧ (∀ k, D'.1 (11, 0, 54, 0) k = D.1 (11, 0, 54, 0) k) := by
    intro m
    induction m with
    | zero =>
      intro fu n E hn hf' gE lE sE
      obtain ⟨fu, rfl⟩ : ∃ g, fu = g + 1 := ⟨fu - 1, by omega⟩
      have : n = 61 := by omega
      subst this
      rw [F_X11_couldRule_b14, if_pos (show (61 : Int32) ≤ nI 61 by decide)]
      exact fin E gE lE sE
    | succ m ih =>
      intro fu n E hn hf' gE lE sE
      obtain ⟨fu, rfl⟩ : ∃ g, fu = g + 1 := ⟨fu - 1, by omega⟩
      obtain ⟨E1, e1, g1, mo1⟩ := qg_goesx hA hf gE (Gd.sI (c := cfX A f 0 0 (-1) (-1)) (cfX_ok hA) hbg n) (sI_wk (w := 0) beg_wk n) (by omega)
      rw [← sI_s] at g1
      rw [F_X11_couldRule_b14, if_neg (show ¬ (61 : Int32) ≤ nI n from nI_ge (b := 61) (by omega) (by decide)), e1, cbd_s]
      obtain ⟨E2, e2, v2, m2⟩ := r_layRow (n := n) (a1 := f) (kk := (fun l2_13 D14 => (bnd (l2_13 + (1 : Int32)) (fun v15 => (F_X11_couldRule_b14 f (fun D16 => (vbd (F_X11_laysBack  D16) (fun D18 => (F_X11_couldRule_b66 f 2000 (0 : Int32) D18)))) fu v15 D14))))) (D := E1) (by omega)
      rw [e2, bnd_e, nI_1]
      have m2' : Sm (fun la _ => la.1 == 11 && decide (50 ≤ la.2.2.1 ∧ la.2.2.1 ≤ 54)) E1 E2 := m2.mono (fun la k e => by
        rw [Bool.and_eq_false_iff, beq_eq_false_iff_ne]
        left
        rintro rfl
        simp at e)
      have hs1 : rdM E1 = _ := g1.2.2.2.2.2.2.2.2.1
      refine ih fu (n + 1) E2 (by omega) (by omega) (qg_w g1 m2') (fun n' k hn' hk => ?_) (fun k => ?_)
      · by_cases c : n' = n
        · subst c
          rw [v2 k hk, m_from hk, hs1]
          rfl
        · rw [m2.i (by simp; omega), mo1.i (by simp [moS])]
          exact lE n' k (by omega) hk
      · rw [m2.i (by simp), mo1.i (by simp [moS])]
        exact sE k
  refine key 61 2000 0 D2 (by omega) (by omega) g2 (fun n' k hn' => absurd hn' (by omega)) (fun k => ?_)
  rw [m2.i (by simp [stM]), gI, if_neg (by simp)]
/-- how many are so, and the first -/
def cnF (P : Nat → Bool) : Nat → Nat
  | 0 => 0
  | t + 1 => cnF P t + (if P t = true then 1 else 0)
def fsN (P : Nat → Bool) : Nat → Int32
  | 0 => -2
  | t + 1 => if P t = true ∧ cnF P t = 0 then moL t else fsN P t
theorem cnF_b {P : Nat → Bool} : ∀ t, cnF P t ≤ t
  | 0 => Nat.le_refl 0
  | t + 1 => by
    have := cnF_b (P := P) t
    rw [cnF]
    split <;> omega
theorem fs_c {P : Nat → Bool} : ∀ t, t < 1000 → (fsN P t = -2 ↔ cnF P t = 0)
  | 0, _ => by simp [fsN, cnF]
  | t + 1, h => by
    have ih := fs_c (P := P) t (by omega)
    rw [fsN, cnF]
    by_cases c : P t = true
    · by_cases c2 : cnF P t = 0
      · rw [if_pos ⟨c, c2⟩, if_pos c]
        have : ¬ moL t = (-2 : Int32) := fun e => by
          have := congrArg Int32.toInt e
          rw [moL_toInt (by omega)] at this
          have e2 : (-2 : Int32).toInt = -2 := rfl
          omega
        simp [this]
      · rw [if_neg (fun x => c2 x.2), if_pos c, ih]
        omega
    · rw [if_neg (fun x => c x.1), if_neg c, ih]
      omega
def fitP (A : Al) (t : Nat) : Bool := notB A (moL t)
/-- of the RULES that are there -/
def fitQ (A : Al) (t : Nat) : Bool := decide (t ≤ alN A) && fitP A t
theorem fitQ_lo {A : Al} {t : Nat} (h : t < alN A + 1) : fitQ A t = fitP A t := by
  unfold fitQ
  rw [decide_eq_true (show t ≤ alN A by omega), Bool.true_and]
theorem fitQ_hi {A : Al} {t : Nat} (h : alN A + 1 ≤ t) : ¬ fitQ A t = true := by
  unfold fitQ
  rw [decide_eq_false (show ¬ t ≤ alN A by omega), Bool.false_and]
  decide
theorem cnF_cut {P Q : Nat → Bool} {N : Nat} (h1 : ∀ t, t < N → Q t = P t) (h2 : ∀ t, N ≤ t → ¬ Q t = true) : ∀ T, cnF Q T = cnF P (min T N)
  | 0 => congrArg (cnF P) (show (0 : Nat) = min 0 N by omega)
  | T + 1 => by
    have ih := cnF_cut h1 h2 T
    by_cases c : T < N
    · rw [show min (T + 1) N = T + 1 by omega]
      show cnF Q T + (if Q T = true then 1 else 0) = cnF P T + (if P T = true then 1 else 0)
      rw [ih, h1 T c, show min T N = T by omega]
    · rw [show min (T + 1) N = min T N by omega, ← ih]
      show cnF Q T + (if Q T = true then 1 else 0) = cnF Q T
      rw [if_neg (h2 T (by omega)), Nat.add_zero]
theorem fsN_cut {P Q : Nat → Bool} {N : Nat} (h1 : ∀ t, t < N → Q t = P t) (h2 : ∀ t, N ≤ t → ¬ Q t = true) : ∀ T, fsN Q T = fsN P (min T N)
  | 0 => congrArg (fsN P) (show (0 : Nat) = min 0 N by omega)
  | T + 1 => by
    have ih := fsN_cut h1 h2 T
    by_cases c : T < N
    · rw [show min (T + 1) N = T + 1 by omega]
      show (if Q T = true ∧ cnF Q T = 0 then moL T else fsN Q T) = (if P T = true ∧ cnF P T = 0 then moL T else fsN P T)
      rw [ih, cnF_cut h1 h2 T, h1 T c, show min T N = T by omega]
    · rw [show min (T + 1) N = min T N by omega, ← ih]
      show (if Q T = true ∧ cnF Q T = 0 then moL T else fsN Q T) = fsN Q T
      rw [if_neg (fun x => h2 T (by omega) x.1)]
theorem c_findRules {A : Al} {D : Dt} {K : Nat} (hA : okA A) (ht : (woH (alW A)).1 = true) (h : RC D A) (hK : K ≤ 61) : ∃ D', F_X1_findRules (nI (alN A)) (moL K) D = some D' ∧ Sm qS D D' ∧ D'.1 (1, 0, 0, 0) 11 = nI (cnF (fitP A) (alN A + 1)) ∧ D'.1 (1, 0, 0, 0) 10 = fsN (fitP A) (alN A + 1) ∧ (∀ t, t < 7 → D'.1 (1, 0, 8, 0) t = (if fitQ A t = true then 1 else 0)) ∧ (∀ t, t < 7 → fitQ A t = true → ∀ x, K = x + 1 → ∀ k, k < 5 → D'.1 (1, 0, 9, t + 1) k = frm A (moL t) x k) := by
  have hN6 := hA.2.2.1
  rw [F_X1_findRules, bnd_e, bnd_e]
  have s0 : Sm qS D (setI (setI D (1, 0, 0, 0) 11 0) (1, 0, 0, 0) 10 (-2)) := (Sm.sI (by simp [qS])).trans (Sm.sI (by simp [qS]))
  have cq : cnF (fitQ A) 7 = cnF (fitP A) (alN A + 1) := by rw [cnF_cut (P := fitP A) (Q := fitQ A) (N := alN A + 1) (fun t ht => fitQ_lo ht) (fun t ht => fitQ_hi ht) 7, show min 7 (alN A + 1) = alN A + 1 by omega]
  have fq : fsN (fitQ A) 7 = fsN (fitP A) (alN A + 1) := by rw [fsN_cut (P := fitP A) (Q := fitQ A) (N := alN A + 1) (fun t ht => fitQ_lo ht) (fun t ht => fitQ_hi ht) 7, show min 7 (alN A + 1) = alN A + 1 by omega]
  rw [← cq, ← fq]
  have key : ∀ (m fu t : Nat) (E : Dt), t + m = 7 → m < fu → RC E A → Sm qS D E → E.1 (1, 0, 0, 0) 11 = nI (cnF (fitQ A) t) → E.1 (1, 0, 0, 0) 10 = fsN (fitQ A) t → (∀ t', t' < t → E.1 (1, 0, 8, 0) t' = (if fitQ A t' = true then 1 else 0)) → (∀ t', t' < t → fitQ A t' = true → ∀ x, K = x + 1 → ∀ k, k < 5 → E.1 (1, 0, 9, t' + 1) k = frm A (moL t') x k) → ∃ D', F_X1_findRules_b13 (nI (alN A)) (moL K) fu (nI (alN A)) (moL K) (moL t) E = some D' ∧ Sm qS D D' ∧ D'.1 (1, 0, 0, 0) 11 = nI (cnF (fitQ A) 7) ∧ D'.1 (1, 0, 0, 0) 10 = fsN (fitQ A) 7 ∧ (∀ t, t < 7 → D'.1 (1, 0, 8, 0) t = (if fitQ A t = true then 1 else 0)) ∧ (∀ t, t < 7 → fitQ A t = true → ∀ x, K = x + 1 → ∀ k, k < 5 → D'.1 (1, 0, 9, t + 1) k = frm A (moL t) x k) := by
    intro m
    induction m with
    | zero =>
      intro fu t E hj hf hR hs h11 h10 h8 h9
      obtain ⟨fu, rfl⟩ : ∃ g, fu = g + 1 := ⟨fu - 1, by omega⟩
      have : t = 7 := by omega
      subst this
      rw [F_X1_findRules_b13, if_pos (show (6 : Int32) ≤ moL 7 by decide)]
      exact ⟨E, rfl, hs, h11, h10, h8, h9⟩
    | succ m ih =>
      intro fu t E hj hf hR hs h11 h10 h8 h9
      obtain ⟨fu, rfl⟩ : ∃ g, fu = g + 1 := ⟨fu - 1, by omega⟩
      have step : ∃ D1, F_X1_findRules_b13 (nI (alN A)) (moL K) (fu + 1) (nI (alN A)) (moL K) (moL t) E = F_X1_findRules_b45 (nI (alN A)) (moL K) (fun l1 l2 l3 D => F_X1_findRules_b13 (nI (alN A)) (moL K) fu l1 l2 l3 D) (nI (alN A)) (moL K) (moL t) (moL t + 1) (if fitQ A t = true then 1 else 0) D1 ∧ Sm (isS t) E D1 ∧ (fitQ A t = true → ∀ x, K = x + 1 → ∀ k, k < 5 → D1.1 (1, 0, 9, t + 1) k = frm A (moL t) x k) := by
        have n2 : ¬ (6 : Int32) ≤ moL t := by rw [fa_le, moL_toInt (by omega)]; have : (6 : Int32).toInt = 6 := rfl; omega
        by_cases c : alN A < t
        · have n1 : nI (alN A) ≤ moL t := by rw [fa_le, nI_toInt (by omega), moL_toInt (by omega)]; omega
          have hq : ¬ fitQ A t = true := fitQ_hi c
          refine ⟨E, ?_, Sm.refl, fun y => absurd y hq⟩
          rw [F_X1_findRules_b13, if_neg n2, if_pos n1, if_neg hq, F_X1_findRules_b44]
        · have n1 : ¬ nI (alN A) ≤ moL t := by rw [fa_le, nI_toInt (by omega), moL_toInt (by omega)]; omega
          have hq : fitQ A t = fitP A t := fitQ_lo (by omega)
          obtain ⟨D1, e1, s1, v1⟩ := c_isSo (t := t) (K := K) hA ht hR (by omega) hK
          refine ⟨D1, ?_, s1, fun y => v1 (by rw [hq] at y; exact y)⟩
          rw [F_X1_findRules_b13, if_neg n2, if_neg n1, e1, cbd_s]
          by_cases c2 : notB A (moL t) = true
          · have hf : fitQ A t = true := by rw [hq]; exact c2
            rw [if_pos c2, if_neg (show ¬ (1 : Int32) = 0 by decide), if_pos hf]
          · have hf : ¬ fitQ A t = true := by rw [hq]; exact c2
            rw [if_neg c2, if_pos (show (0 : Int32) = 0 from rfl), if_neg hf, F_X1_findRules_b44]
      obtain ⟨D1, e1, s1, v1⟩ := step
      rw [e1, F_X1_findRules_b45, moL_1, moL_s, grd_t (inBe (show t < 7 by omega) (by decide)), nIc (by omega), bnd_e, grd_t (inBe (show t < 7 by omega) (by decide)), gI_s]
      have hb : vp_nar .boolean (if fitQ A t = true then (1 : Int32) else 0) = (if fitQ A t = true then 1 else 0) := by
        by_cases c : fitQ A t = true
        · rw [if_pos c]; rfl
        · rw [if_neg c]; rfl
      rw [hb]
      generalize hD2 : setI D1 (1, 0, 8, 0) t (if fitQ A t = true then 1 else 0) = D2
      have m2 : Sm (fun la k => la == (1, 0, 8, 0) && k == t) D1 D2 := by rw [← hD2]; exact Sm.sI (by simp)
      have m2q : Sm qS D1 D2 := by rw [← hD2]; exact Sm.sI (by simp [qS])
      have x11 : D2.1 (1, 0, 0, 0) 11 = nI (cnF (fitQ A) t) := by rw [m2.i (by simp), s1.i (by simp [isS]), h11]
      have x10 : D2.1 (1, 0, 0, 0) 10 = fsN (fitQ A) t := by rw [m2.i (by simp), s1.i (by simp [isS]), h10]
      have x8 : ∀ t', t' < t + 1 → D2.1 (1, 0, 8, 0) t' = (if fitQ A t' = true then 1 else 0) := fun t' ht' => by
        by_cases c : t' = t
        · rw [c, ← hD2, gI_s]
        · rw [m2.i (by simp [c]), s1.i (by simp [isS])]
          exact h8 t' (by omega)
      have x9 : ∀ t', t' < t + 1 → fitQ A t' = true → ∀ x, K = x + 1 → ∀ k, k < 5 → D2.1 (1, 0, 9, t' + 1) k = frm A (moL t') x k := fun t' ht' hp x hx k hk => by
        rw [m2.i (by simp)]
        by_cases c : t' = t
        · rw [c] at hp ⊢
          exact v1 hp x hx k hk
        · rw [s1.i (by simp [isS, c])]
          exact h9 t' (by omega) hp x hx k hk
      have R2 : RC D2 A := (hR.scr (isS_q s1)).scr m2q
      have S2 : Sm qS D D2 := (hs.trans (isS_q s1)).trans m2q
      simp only [F_X1_findRules_b81, bnd_e, moL_1]
      by_cases c : fitQ A t = true
      · have hcn : cnF (fitQ A) (t + 1) = cnF (fitQ A) t + 1 := by rw [cnF, if_pos c]
        have hx10 : (setI D2 (1, 0, 0, 0) 11 (nI (cnF (fitQ A) (t + 1)))).1 (1, 0, 0, 0) 10 = fsN (fitQ A) t := by rw [gI, if_neg (by simp), x10]
        rw [if_pos c, if_neg (by decide), x11, nI_1, ← hcn, hx10]
        have hfc := fs_c (P := fitQ A) t (by omega)
        have m3 : Sm (fun la k => la == (1, 0, 0, 0)) D2 (setI D2 (1, 0, 0, 0) 11 (nI (cnF (fitQ A) (t + 1)))) := Sm.sI (by simp)
        generalize hD3 : setI D2 (1, 0, 0, 0) 11 (nI (cnF (fitQ A) (t + 1))) = D3 at m3
        have q3 : Sm qS D2 D3 := by rw [← hD3]; exact Sm.sI (by simp [qS])
        have y11 : D3.1 (1, 0, 0, 0) 11 = nI (cnF (fitQ A) (t + 1)) := by rw [← hD3, gI_s]
        have y10 : D3.1 (1, 0, 0, 0) 10 = fsN (fitQ A) t := by rw [← hD3, gI, if_neg (by simp), x10]
        by_cases c2 : fsN (fitQ A) t = -2
        · rw [if_pos c2]
          have hfs : fsN (fitQ A) (t + 1) = moL t := by rw [fsN, if_pos ⟨c, hfc.mp c2⟩]
          have m4 : Sm (fun la k => la == (1, 0, 0, 0)) D3 (setI D3 (1, 0, 0, 0) 10 (moL t)) := Sm.sI (by simp)
          have q4 : Sm qS D3 (setI D3 (1, 0, 0, 0) 10 (moL t)) := Sm.sI (by simp [qS])
          refine ih fu (t + 1) _ (by omega) (by omega) ((R2.scr q3).scr q4) ((S2.trans q3).trans q4) (by rw [gI, if_neg (by simp), y11]) (by rw [gI_s, hfs]) (fun t' ht' => ?_) (fun t' ht' hp x hx k hk => ?_)
          · rw [m4.i (by simp), m3.i (by simp)]; exact x8 t' ht'
          · rw [m4.i (by simp), m3.i (by simp)]; exact x9 t' ht' hp x hx k hk
        · rw [if_neg c2]
          have hfs : fsN (fitQ A) (t + 1) = fsN (fitQ A) t := by rw [fsN, if_neg (fun x => c2 (hfc.mpr x.2))]
          refine ih fu (t + 1) D3 (by omega) (by omega) (R2.scr q3) (S2.trans q3) y11 (by rw [y10, hfs]) (fun t' ht' => ?_) (fun t' ht' hp x hx k hk => ?_)
          · rw [m3.i (by simp)]; exact x8 t' ht'
          · rw [m3.i (by simp)]; exact x9 t' ht' hp x hx k hk
      · rw [if_neg c, if_pos rfl]
        exact ih fu (t + 1) D2 (by omega) (by omega) R2 S2 (by rw [x11, cnF, if_neg c]; rfl) (by rw [x10, fsN, if_neg (fun x => c x.1)]) x8 x9
  exact key 7 2000 0 _ (by omega) (by omega) (h.scr s0) s0 (by rw [gI, if_neg (by simp), gI_s]; rfl) (by rw [gI_s]; rfl) (fun t' ht' => absurd ht' (by omega)) (fun t' ht' => absurd ht' (by omega))
theorem p_ruled (a : Int32) : Cal (F_X10_ruled a) (F_X11_ruled a) := by
  refine cal_of (fun A hA => ?_)
  have hN6 := hA.2.2.1
  by_cases ht : (woH (alW A)).1 = true
  · by_cases c3 : (0 : Int32) ≤ a ∧ a ≤ 1
    · refine cal_ask hA (if a = 0 then nI (cnF (fitP A) (alN A + 1)) else fsN (fitP A) (alN A + 1)) (fun D h => ?_) (fun D h => ?_)
      · obtain ⟨D1, e1, s1, v11, v10, _⟩ := c_findRules (K := 0) hA ht h (by decide)
        have h5 : D.1 (10, 0, 0, 0) 5 = nI (alN A) := h.2.2.2.2.1
        rw [F_X10_ruled, there_c h, i1t ht, c_within, cbd_s, i1t c3, h5, show F_X1_findRules (nI (alN A)) (-1) D = _ from e1, vbd_s, v11, v10]
        simp only [if_so]
        exact ⟨D1, rfl, s1⟩
      · obtain ⟨D1, e1, g1⟩ := qg_start h
        rw [F_X11_ruled, r_isTable, cbd_s]
        simp only [there_m hA h]
        rw [i1t ht, r_in_0_1, cbd_s, i1t c3, e1, vbd_s]
        have key : ∀ (m fu t : Nat) (E : Dt), t + m = alN A + 1 → m < fu → QG A D E (woC (alW A)) 0 0 (-1) (-1) (woD (alW A)) (woS (alW A)) → ∃ D' o, F_X11_ruled_b32 a (fun l1_39 l2_40 l3_41 D42 => (if l1_39 = 0 then (some (l2_40, D42)) else (some (l3_41, D42)))) fu a (nI (cnF (fitP A) t)) (fsN (fitP A) t) (moL t) E = some ((if a = 0 then nI (cnF (fitP A) (alN A + 1)) else fsN (fitP A) (alN A + 1)), D') ∧ QG A D D' (woC (alW A)) 0 0 (-1) o (woD (alW A)) (woS (alW A)) := by
          intro m
          induction m with
          | zero =>
            intro fu t E hj hf g
            obtain ⟨fu, rfl⟩ : ∃ g, fu = g + 1 := ⟨fu - 1, by omega⟩
            have : t = alN A + 1 := by omega
            subst this
            have x23 : E.1 (11, 0, 0, 0) 23 = nI (alN A) := by rw [g.2.1.i (by simp [qmS])]; exact g.1.2.2.2.1
            rw [F_X11_ruled_b32, x23, moL_s, if_pos (nI_le (Nat.le_refl _) (by omega))]
            simp only [if_so]
            exact ⟨E, _, rfl, g⟩
          | succ m ih =>
            intro fu t E hj hf g
            obtain ⟨fu, rfl⟩ : ∃ g, fu = g + 1 := ⟨fu - 1, by omega⟩
            have x23 : E.1 (11, 0, 0, 0) 23 = nI (alN A) := by rw [g.2.1.i (by simp [qmS])]; exact g.1.2.2.2.1
            have n1 : ¬ nI (alN A) ≤ moL t := by rw [fa_le, nI_toInt (by omega), moL_toInt (by omega)]; omega
            obtain ⟨E1, e1, g1, _⟩ := r_could hA (isF_mo (t := t) (by omega)) g
            rw [F_X11_ruled_b32, x23, if_neg n1, e1, cbd_s]
            simp only [F_X11_ruled_b64, F_X11_ruled_b60, bnd_e, moL_1, nI_1]
            have nx := ih fu (t + 1) E1 (by omega) (by omega) g1
            by_cases c : notB A (moL t) = true
            · have hc : fitP A t = true := c
              have hcn : cnF (fitP A) (t + 1) = cnF (fitP A) t + 1 := by rw [cnF, if_pos hc]
              rw [if_pos c, if_neg (by decide)]
              rw [hcn] at nx
              have hcb := cnF_b (P := fitP A) t
              by_cases c2 : cnF (fitP A) t = 0
              · rw [if_pos (by rw [c2]; rfl)]
                rw [show fsN (fitP A) (t + 1) = moL t by rw [fsN, if_pos ⟨hc, c2⟩]] at nx
                exact nx
              · rw [if_neg (nI_ne0 (by omega) (by omega))]
                rw [show fsN (fitP A) (t + 1) = fsN (fitP A) t by rw [fsN, if_neg (fun x => c2 x.2)]] at nx
                exact nx
            · have hc : ¬ fitP A t = true := c
              rw [if_neg c, if_pos rfl]
              rw [show cnF (fitP A) (t + 1) = cnF (fitP A) t by rw [cnF, if_neg hc]; rfl, show fsN (fitP A) (t + 1) = fsN (fitP A) t by rw [fsN, if_neg (fun x => hc x.1)]] at nx
              exact nx
        exact key (alN A + 1) 2000 0 D1 (by omega) (by omega) g1
    · refine cal_no hA (-3) (fun D h => ?_) (fun D h => ?_)
      · rw [F_X10_ruled, there_c h, i1t ht, c_within, cbd_s, i1f c3]
      · rw [F_X11_ruled, r_isTable, cbd_s]
        simp only [there_m hA h]
        rw [i1t ht, r_in_0_1, cbd_s, i1f c3]
  · refine cal_no hA (-3) (fun D h => ?_) (fun D h => ?_)
    · rw [F_X10_ruled, there_c h, i1f ht]
    · rw [F_X11_ruled, r_isTable, cbd_s]
      simp only [there_m hA h]
      rw [i1f ht]
