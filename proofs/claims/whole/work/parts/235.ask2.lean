theorem lvA_y : ∀ q, q < 6 → ∃ y, lvA q = (11, 0, y, 0) ∧ 2 ≤ y ∧ y ≤ 7 := by
  intro q hq
  have : q = 0 ∨ q = 1 ∨ q = 2 ∨ q = 3 ∨ q = 4 ∨ q = 5 := by omega
  rcases this with rfl | rfl | rfl | rfl | rfl | rfl
  · exact ⟨2, rfl, by decide, by decide⟩
  · exact ⟨3, rfl, by decide, by decide⟩
  · exact ⟨4, rfl, by decide, by decide⟩
  · exact ⟨5, rfl, by decide, by decide⟩
  · exact ⟨6, rfl, by decide, by decide⟩
  · exact ⟨7, rfl, by decide, by decide⟩
theorem qg_start {A : Al} {D : Dt} (h : RM D A) : ∃ D', F_X11_keepsAll D = some D' ∧ QG A D D' (woC (alW A)) 0 0 (-1) (-1) (woD (alW A)) (woS (alW A)) := by
  obtain ⟨D', e, f⟩ := r_carry4F (D := D)
  rw [F_X11_keepsAll, e, vbd_s]
  have fr := f.2.2.2.1
  have lv := f.lv h.1
  refine ⟨D', rfl, h, ?_, fun q k hq hk => f.2.2.2.2.1 q k hq hk, ?_, ?_, ?_, ?_, Or.inl rfl, ?_, ?_⟩
  · intro la k e
    refine ⟨?_, by rw [f.1], by rw [f.1]⟩
    by_cases c55 : la = (11, 0, 55, 0)
    · rw [c55] at e ⊢
      refine f.2.2.2.2.2 k (Or.inl ?_)
      simpa [qmS] using e
    · refine fr la k c55 (fun x => ?_) (fun x => ?_)
      · rw [x] at e
        simp [qmS] at e
      · rw [x.1] at e
        simp [qmS] at e
        omega
  · exact lv.2.2.2.2.2.2.1
  · rw [fr _ _ (by simp) (by simp) (by simp)]; exact h.2.2.2.2.2.2.2.1
  · rw [fr _ _ (by simp) (by simp) (by simp)]; exact h.2.2.2.2.2.2.2.2.2.1
  · rw [fr _ _ (by simp) (by simp) (by simp)]; exact h.2.2.2.2.2.2.2.2.1
  · rw [← lvR_rd]; exact lv.2.2.2.1
  · exact lv.2.2.2.2.2.1
theorem qg_lays {A : Al} {D0 D : Dt} {f h i c o d : Int32} {s : St} (g : QG A D0 D f h i c o d s) : ∃ D', F_X11_laysBack D = some D' ∧ QG A D0 D' (woC (alW A)) h i c o (woD (alW A)) (woS (alW A)) := by
  obtain ⟨g1, g2, g3, g4, g5, g6, g7, g8, g9, g10⟩ := g
  obtain ⟨D', e, b⟩ := r_carry4B (D := D)
  rw [F_X11_laysBack, e, vbd_s]
  have fr := b.2.2.2.1
  have e00 : ∀ q', q' < 6 → ((11, 0, 0, 0) : LA) ≠ lvA q' := fun q' hq' x => by
    obtain ⟨y, e1, e2, e3⟩ := lvA_y q' hq'
    rw [e1] at x
    simp at x
    omega
  have fr0 : ∀ k, ¬ (k = 56 ∨ k = 57) → D'.1 (11, 0, 0, 0) k = D.1 (11, 0, 0, 0) k := fun k hk => fr _ _ e00 (by simp) (by simp; omega)
  have lv : ∀ q k, q < 6 → k < roL q → lvR D' q k = lvR D0 q k := fun q k hq hk => by rw [b.2.2.2.2 q k hq hk, g3 q k hq hk]
  have hrd : rdR (lvR D') = rdR (lvR D0) := rdR_cong (fun q k hq hk => lv q k hq hk)
  refine ⟨D', rfl, g1, ?_, ?_, ?_, ?_, ?_, ?_, ?_, ?_, ?_⟩
  · intro la k x
    refine ⟨?_, by rw [b.1]; exact (g2 la k x).2.1, by rw [b.1]; exact (g2 la k x).2.2⟩
    by_cases c2 : la = (11, 0, 2, 0)
    · rw [c2] at x ⊢
      have hk : k < 9 := by
        simp [qmS] at x
        omega
      exact lv 0 k (by decide) hk
    · refine (fr la k (fun q' hq' y => ?_) (fun y => ?_) (fun y => ?_)).trans (g2.i x)
      · obtain ⟨z, e1, e2, e3⟩ := lvA_y q' hq'
        rw [y, e1] at x c2
        simp [qmS] at x c2
        omega
      · rw [y] at x
        simp [qmS] at x
      · rw [y.1] at x
        simp [qmS] at x
        omega
  · intro q k hq hk
    rw [fr _ _ (fun q' hq' y => (lvA_sh q' (by omega)).2.2.1 y.symm) (by simp) (by simp)]
    exact g3 q k hq hk
  · exact (lv 0 8 (by decide) (by decide)).trans g1.1.2.2.2.2.2.2.1
  · rw [fr0 _ (by decide)]; exact g5
  · rw [fr0 _ (by decide)]; exact g6
  · rw [fr0 _ (by decide)]; exact g7
  · rw [fr0 _ (by decide)]; exact g8
  · rw [← lvR_rd, hrd]; exact g1.1.2.2.2.1
  · exact (lv 0 7 (by decide) (by decide)).trans g1.1.2.2.2.2.2.1
theorem qg_end {A : Al} {D0 D : Dt} {o : Int32} (g : QG A D0 D (woC (alW A)) 0 0 (-1) o (woD (alW A)) (woS (alW A))) : RM D A ∧ Sm mS D0 D := by
  obtain ⟨g1, g2, g3, g4, g5, g6, g7, g8, g9, g10⟩ := g
  refine ⟨?_, qmS_m g2⟩
  have := g1.setW (D' := D) (W' := alW A) ?_ ?_
  · exact this
  · intro la k e
    by_cases c : la = (11, 0, 0, 0) ∧ (k = 39 ∨ k = 40 ∨ k = 42)
    · obtain ⟨rfl, hk⟩ := c
      rcases hk with rfl | rfl | rfl
      · rw [g5, g1.2.2.2.2.2.2.2.1]
      · rw [g7, g1.2.2.2.2.2.2.2.2.1]
      · rw [g6, g1.2.2.2.2.2.2.2.2.2.1]
    · refine g2.i ?_
      simp only [kpM, Bool.and_eq_true, Bool.or_eq_true, beq_iff_eq, decide_eq_true_eq] at e
      obtain ⟨e1, e2⟩ := e
      have c' : ¬ (la.2.2.1 = 0 ∧ (k = 39 ∨ k = 40 ∨ k = 42)) := fun x => c ⟨by rw [e1, x.1], x.2⟩
      simp only [qmS, Bool.or_eq_false_iff, Bool.and_eq_false_iff, decide_eq_false_iff_not, beq_eq_false_iff_ne]
      omega
  · refine g1.1.cong (fun q k hq hk => ?_)
    by_cases c0 : q = 0
    · subst c0
      rw [lvR_00, lvR_00]
      have hk9 : k < 9 := hk
      have hm : rdM D = rdM D0 := by rw [g9, ← lvR_rd]; exact g1.1.2.2.2.1.symm
      have : k = 0 ∨ k = 1 ∨ k = 2 ∨ k = 3 ∨ k = 4 ∨ k = 5 ∨ k = 6 ∨ k = 7 ∨ k = 8 := by omega
      rcases this with rfl | rfl | rfl | rfl | rfl | rfl | rfl | rfl | rfl
      · exact g2.i (by simp [qmS])
      · exact g2.i (by simp [qmS])
      · exact g2.i (by simp [qmS])
      · rw [m_rate, m_rate, hm]
      · rw [m_week, m_week, hm]
      · rw [m_bought, m_bought, hm]
      · exact g2.i (by simp [qmS])
      · rw [g10]; exact g1.1.2.2.2.2.2.1.symm
      · rw [g4]; exact g1.1.2.2.2.2.2.2.1.symm
    · by_cases c5 : q ≤ 5
      · have hm : rdM D = rdM D0 := by rw [g9, ← lvR_rd]; exact g1.1.2.2.2.1.symm
        have hk5 : k < 5 := by simpa [roL, c0, c5] using hk
        obtain ⟨x, rfl⟩ : ∃ x, q = x + 1 := ⟨q - 1, by omega⟩
        have e1 : ∀ E : Dt, lvR E (x + 1) k = rdM E x k := fun E => by
          rw [← rdM_g x (by omega) hk5]
          simp only [lvR]
          rw [if_neg (by omega), if_pos c5]
        rw [e1, e1, hm]
      · by_cases c6 : q = 6
        · subst c6
          exact g2.i (by simp [qmS])
        · have h14 : 7 ≤ q := by omega
          rw [← lvA_lv q hq c6, ← lvA_lv q hq c6]
          have : ∀ q, q < 15 → 7 ≤ q → ∀ k, qmS (lvA q) k = false := by
            intro q h1 h2 k
            have : q = 7 ∨ q = 8 ∨ q = 9 ∨ q = 10 ∨ q = 11 ∨ q = 12 ∨ q = 13 ∨ q = 14 := by omega
            rcases this with rfl | rfl | rfl | rfl | rfl | rfl | rfl | rfl <;> rfl
          exact g2.i (this q hq h14 k)
theorem p_week : Cal F_X10_week F_X11_week := by
  refine cal_of (fun A hA => ?_)
  by_cases c1 : (woH (alW A)).1 = true
  · obtain ⟨w, hw, ew⟩ := hA.1.2.2.2.2.2.2.1.2
    have hgd := hA.1.2.2.2.2.2.2.1.1
    by_cases c2 : w < 999
    · by_cases hp : woP (alW A) ≤ 20
      · refine ⟨wN (cf0 A) (woS (alW A)), (setS (pushW (alW A)) (wS (cf0 A) (woS (alW A))), A.2), act_ok hA hp ⟨hgd.wS (c := cf0 A) (cfX_ok hA), w + 1, by omega, wS_wk ew⟩, fun D h => ?_, fun D h => ?_⟩
        · obtain ⟨D1, e1, r1, s1, q1⟩ := keep_c h
          have hA1 : okA (pushW (alW A), A.2) := hA.setW (hA.1.push hp)
          obtain ⟨D2, e2, c2', m2, z2, s2⟩ := c_follow (q := 0) (A := (pushW (alW A), A.2)) (by decide) r1 hA1 c1 (okF hA1)
          have hcf : cfX (pushW (alW A), A.2) (woC (alW (pushW (alW A), A.2))) 0 0 (-1) (-1) = cf0 A := rfl
          rw [hcf] at c2'
          have rs : rdS D2 0 = woS (alW A) := by rw [rdS_sm s2 (fun q k => by simp), q1, h.s]
          obtain ⟨D3, e3, r3, q3, _, m3⟩ := c_pass (m := false) (se := 0) vv0 (by decide : V (8, 0, 0, 0) = true) c2' (by rw [rs]; exact ew) (by omega) m2 z2 (Or.inr rfl)
          rw [rs] at e3 r3
          have fo8 : Sm cW D1 D2 := qS_W (fo_W s2)
          have we0 : Sm cW D2 D3 := cW_of m3 (fun la k e => by
            simp only [weS, cW, wcl, Bool.or_eq_false_iff, Bool.and_eq_false_iff, decide_eq_false_iff_not, beq_eq_false_iff_ne] at e ⊢
            omega)
          have R2 : RC D2 (pushW (alW A), A.2) := r1.scr (fo_W s2)
          have R3 : RCw D3 0 (setS (pushW (alW A)) (wS (cf0 A) (woS (alW A)))) := by
            obtain ⟨g1, g2, g3, g4, ⟨p, g5, g6⟩, g7, g8, g9, g10, g11⟩ := R2.1
            refine ⟨g1.sm m3 (fun _ _ _ => by simp [weS]), r3, g3, ?_, ⟨p, g5.sm m3 (fun k => by simp [weS]), fun j hj => ?_⟩, g7, ?_, fun j hj => ?_, ?_, ?_⟩
            · rw [m3.i (by simp [weS])]; exact g4
            · rw [rdS_sm m3 (fun q k => by simp [weS])]; exact g6 j hj
            · rw [m3.i (by simp [weS])]; exact g8
            · rw [m3.i (by simp [weS]), m3.i (by simp [weS]), m3.i (by simp [weS])]; exact g9 j hj
            · rw [m3.i (by simp [weS])]; exact g10
            · rw [m3.i (by simp [weS])]; exact g11
          refine ⟨D3, ?_, R2.setW we0 R3, (s1.trans (cW_c fo8)).trans (cW_c we0)⟩
          rw [F_X10_week, there_c h, i1t c1, s_week, h.s, ew, if_pos (show nI w < (999 : Int32) from nI_lt (b := 999) c2 (by decide)), e1, vbd_s, r1.1.2.2.2.2.2.2.2.2.1, c_ruleOf hA1 (okF hA1), cbd_s, e2, vbd_s, e3, cbd_s]
          rfl
        · obtain ⟨D1, e1, r1, s1⟩ := keep_m h
          have hA1 : okA (pushW (alW A), A.2) := hA.setW (hA.1.push hp)
          have q1 : rdM D1 = woS (alW A) := r1.s
          have hcm : CfM D1 (cf0 A) := by
            obtain ⟨a1, a2, a3, a4, a5, a6, a7, a8, a9, a10, a11, a12⟩ := r1.1
            have hN := hA.2.2.1
            refine ⟨hA.1.1, a3, a2, fun k v hk hv => a11 k v hk hv, ?_, r1.2.2.2.2.2.2.2.1, r1.2.2.2.2.2.2.2.2.2.1, r1.2.2.2.2.2.2.2.2.1, Or.inl rfl⟩
            rcases okF hA with hf | ⟨x, hx, hf⟩
            · exact Or.inl ⟨by show ruN A _ = none; rw [ruN, if_pos hf], a7.trans hf⟩
            · have hne := nI_nem1 (show x < 2147483648 by omega)
              refine Or.inr ⟨x, alR A x, by omega, ?_, a7.trans hf, hA.2.2.2.1 x hx, r1.2.2.2.2.1 x hx⟩
              show ruN A (woC (alW A)) = _
              rw [hf, ruN, if_neg hne, nIc (by omega)]
          obtain ⟨D2, e2, r2, _, m2⟩ := r_goes (D := D1) (w := w) (m := false) 0 (cfX_ok hA) hcm (by rw [q1]; exact hgd) (by rw [q1]; exact ew) (by omega) (Or.inl rfl)
          rw [q1] at e2 r2
          have kp2 : ∀ la k, kpM la k = true → D2.1 la k = D1.1 la k := fun la k e => m2.i (by
            simp only [kpM, moS, Bool.and_eq_true, Bool.or_eq_true, beq_iff_eq, decide_eq_true_eq, Bool.and_eq_false_iff, Bool.or_eq_false_iff, decide_eq_false_iff_not, beq_eq_false_iff_ne] at e ⊢
            omega)
          have R2 : RW (lvR D2) (setS (pushW (alW A)) (wS (cf0 A) (woS (alW A)))) := by
            refine RW.st r1.1 (fun q k hq => ?_) (fun k hk => ?_) (by rw [lvR_rd]; exact r2)
            · have a1 : ¬ q = 0 := by omega
              have a2 : ¬ q ≤ 5 := by omega
              simp only [lvR, a1, a2, if_false]
              by_cases c6 : q = 6
              · rw [if_pos c6, if_pos c6, m2.i (by simp [moS])]
              · rw [if_neg c6, if_neg c6]
                by_cases c13 : q ≤ 13
                · rw [if_pos c13, if_pos c13, m2.i (by simp [moS]; omega)]
                · rw [if_neg c13, if_neg c13, m2.i (by simp [moS])]
            · rw [lvR_00, lvR_00, m2.i (moS_2 hk)]
          have mm : Sm mS D1 D2 := qmS_m (mo_q m2)
          refine ⟨D2, ?_, r1.setW kp2 R2, s1.trans mm⟩
          have h999 : ¬ nI w = (999 : Int32) := fun e => by have := (nI_eq (a := w) (b := 999) (by omega) (by decide)).mp e; omega
          rw [F_X11_week, r_isTable, cbd_s]
          simp only [there_m hA h]
          rw [i1t c1, m_week, h.s, ew, if_neg h999, e1, vbd_s, e2, cbd_s]
          rfl
      · exact ⟨0, A, hA, fun D h => absurd h.1.2.2.1 hp, fun D h => absurd h.1.2.2.2.2.2.2.2.1 hp⟩
    · have h999 : w = 999 := by omega
      refine cal_no hA (-1) (fun D h => ?_) (fun D h => ?_)
      · rw [F_X10_week, there_c h, i1t c1, s_week, h.s, ew, h999, if_neg (show ¬ nI 999 < (999 : Int32) by decide)]
      · rw [F_X11_week, r_isTable, cbd_s]
        simp only [there_m hA h]
        rw [i1t c1, m_week, h.s, ew, h999, if_pos (show nI 999 = (999 : Int32) from rfl)]
  · refine cal_no hA (-1) (fun D h => ?_) (fun D h => ?_)
    · rw [F_X10_week, there_c h, i1f c1]
    · rw [F_X11_week, r_isTable, cbd_s]
      simp only [there_m hA h]
      rw [i1f c1]
