theorem bw_nat {x : Int32} {m : Int} (h : bw x m) : ∃ j : Nat, (j : Int) ≤ m ∧ x = nI j := by
  obtain ⟨j, hj, e⟩ := nI_of (x := x) (by rw [fa_lt]; have : (0 : Int32).toInt = 0 := rfl; have := h.1; omega)
  refine ⟨j, ?_, e⟩
  have := h.2
  rw [e, nI_toInt hj] at this
  exact this
def pFit (s : St) (a b : Nat) (v : Int32) : St := up (up s 0 a (s 0 a - v)) 0 b (up s 0 a (s 0 a - v) 0 b - v)
theorem p_fight (a b : Int32) : Cal (F_X10_fight a b) (F_X11_fight a b) := by
  refine cal_of (fun A hA => ?_)
  have hn := hA.1.1
  by_cases c1 : inB a (shN (woH (alW A))) = true
  · obtain ⟨x, hx, rfl⟩ := inB_ex c1 (by omega)
    by_cases c2 : inB b (shN (woH (alW A))) = true
    · obtain ⟨y, hy, rfl⟩ := inB_ex c2 (by omega)
      by_cases hne : nI x = nI y
      · refine cal_no hA (-1) (fun D h => ?_) (fun D h => ?_)
        · rw [F_X10_fight, c_areTwo hn h.n, cbd_s, i1f (fun g => g.2 hne)]
        · rw [F_X11_fight, r_isLand hn h.n, cbd_s, i1t c1, r_isLand hn h.n, cbd_s, i1t c2, if_pos hne]
      · have hxy : x ≠ y := fun e => hne (by rw [e])
        have hgd := hA.1.2.2.2.2.2.2.1.1
        obtain ⟨m, hm, em⟩ := bw_nat (hgd.1 x).1
        obtain ⟨k, hk, ek⟩ := bw_nat (hgd.1 y).1
        have hmin : (if woS (alW A) 0 y < woS (alW A) 0 x then woS (alW A) 0 y else woS (alW A) 0 x) = nI (min m k) := by
          rw [em, ek]
          by_cases g : k < m
          · rw [if_pos (nI_lt g (by omega)), Nat.min_eq_right (by omega)]
          · rw [if_neg (nI_nlt (by omega) (by omega)), Nat.min_eq_left (by omega)]
        have hmin2 : (if woS (alW A) 0 y ≤ woS (alW A) 0 x then woS (alW A) 0 y else woS (alW A) 0 x) = nI (min m k) := by rw [mn_le, hmin]
        by_cases c4 : 1 ≤ min m k
        · by_cases hp : woP (alW A) ≤ 20
          · have hv : (nI (min m k) + 1) / 2 = nI ((min m k + 1) / 2) := by rw [nI_1]; exact pk_div (d := 2) (by omega) (by decide) (by decide)
            have hv1 : (min m k + 1) / 2 ≤ m ∧ (min m k + 1) / 2 ≤ k := by omega
            generalize (min m k + 1) / 2 = v at hv hv1
            have hok : Gd (shN (woH (alW A))) (pFit (woS (alW A)) x y (nI v)) := by
              have g1 : Gd (shN (woH (alW A))) (up (woS (alW A)) 0 x (woS (alW A) 0 x - nI v)) := by
                refine hgd.u0 hx ?_
                rw [em, pk_sub hv1.1]
                unfold bw
                rw [nI_toInt (by omega)]
                omega
              refine g1.u0 hy ?_
              rw [up_n (by omega), ek, pk_sub hv1.2]
              unfold bw
              rw [nI_toInt (by omega)]
              omega
            refine ⟨nI v, (setS (pushW (alW A)) (pFit (woS (alW A)) x y (nI v)), A.2), act_ok hA hp ⟨hok, wk_same hA (by simp [pFit, up])⟩, fun D h => ?_, fun D h => ?_⟩
            · obtain ⟨D1, e1, r1, s1, q1⟩ := keep_c h
              generalize hD2 : setI (setI D1 (6, 0, 1, 0) x (D1.1 (6, 0, 1, 0) x - nI v)) (6, 0, 1, 0) y ((setI D1 (6, 0, 1, 0) x (D1.1 (6, 0, 1, 0) x - nI v)).1 (6, 0, 1, 0) y - nI v) = D2
              have m2 : Sm (stS 0) D1 D2 := by rw [← hD2]; exact (Sm.sI (stS_t _ _ _ _)).trans (Sm.sI (stS_t _ _ _ _))
              have r2 : rdS D2 0 = pFit (woS (alW A)) x y (nI v) := by
                rw [← hD2]
                simp (disch := omega) only [sw_men, s_men, q1, h.s, pFit]
              obtain ⟨R2, s2⟩ := act_c r1 m2 r2
              refine ⟨D2, ?_, R2, s1.trans s2⟩
              rw [F_X10_fight, c_areTwo hn h.n, cbd_s, i1t ⟨⟨c1, c2⟩, hne⟩, grd_t (inBe (by omega) (by decide)), grd_t (inBe (by omega) (by decide)), nIc (k := x) (by omega), nIc (by omega), s_men (by omega), s_men (by omega), h.s, hmin, bnd_e, if_pos (show (1 : Int32) ≤ nI (min m k) from nI_le (a := 1) c4 (by omega)), e1, vbd_s, hv, bnd_e, bnd_e, bnd_e, hD2]
            · obtain ⟨D1, e1, r1, s1⟩ := keep_m h
              have q1 : rdM D1 = woS (alW A) := r1.s
              generalize hD2 : setI (setI D1 (11, 0, 3, 0) x (D1.1 (11, 0, 3, 0) x - nI v)) (11, 0, 3, 0) y ((setI D1 (11, 0, 3, 0) x (D1.1 (11, 0, 3, 0) x - nI v)).1 (11, 0, 3, 0) y - nI v) = D2
              have m2 : Sm stM D1 D2 := by rw [← hD2]; exact (Sm.sI (stM_r 0 (by decide) (by decide))).trans (Sm.sI (stM_r 0 (by decide) (by decide)))
              have r2 : rdM D2 = pFit (woS (alW A)) x y (nI v) := by
                rw [← hD2]
                simp (disch := omega) only [mw_men, m_men, q1, pFit]
              obtain ⟨R2, s2⟩ := act_m r1 m2 r2
              refine ⟨D2, ?_, R2, s1.trans s2⟩
              have key : F_X11_fight_b75 (nI x) (nI y) (nI x) (nI y) (nI (min m k)) D1 = some (nI v, D2) := by
                rw [F_X11_fight_b75, hv, bnd_e, grd_t (inBe (show x < 5 by omega) (by decide)), nIc (by omega), bnd_e, grd_t (inBe (show y < 5 by omega) (by decide)), nIc (by omega), bnd_e, hD2]
              rw [F_X11_fight, r_isLand hn h.n, cbd_s, i1t c1, r_isLand hn h.n, cbd_s, i1t c2, if_neg hne, grd_t (inBe (by omega) (by decide)), nIc (k := x) (by omega), m_men (D := D) (by omega), h.s, em, if_neg (nI_ne0 (by omega) (by omega)), grd_t (inBe (by omega) (by decide)), nIc (k := y) (by omega), m_men (D := D) (by omega), h.s, ek, if_neg (nI_ne0 (by omega) (by omega)), e1, vbd_s, m_men (D := D1) (by omega), m_men (D := D1) (by omega), q1, em, ek]
              by_cases g : k ≤ m
              · rw [if_pos (nI_le g (by omega))]
                rw [Nat.min_eq_right g] at key
                exact key
              · rw [if_neg (nI_ge (by omega) (by omega))]
                rw [Nat.min_eq_left (by omega)] at key
                exact key
          · exact ⟨0, A, hA, fun D h => absurd h.1.2.2.1 hp, fun D h => absurd h.1.2.2.2.2.2.2.2.1 hp⟩
        · refine cal_no hA (-1) (fun D h => ?_) (fun D h => ?_)
          · rw [F_X10_fight, c_areTwo hn h.n, cbd_s, i1t ⟨⟨c1, c2⟩, hne⟩, grd_t (inBe (by omega) (by decide)), grd_t (inBe (by omega) (by decide)), nIc (k := x) (by omega), nIc (by omega), s_men (by omega), s_men (by omega), h.s, hmin, bnd_e, if_neg (show ¬ (1 : Int32) ≤ nI (min m k) from nI_ge (b := 1) (by omega) (by decide))]
          · rw [F_X11_fight, r_isLand hn h.n, cbd_s, i1t c1, r_isLand hn h.n, cbd_s, i1t c2, if_neg hne, grd_t (inBe (by omega) (by decide)), nIc (k := x) (by omega), m_men (D := D) (by omega), h.s, em]
            by_cases g : m = 0
            · rw [g, if_pos nI_0]
            · rw [if_neg (nI_ne0 (by omega) (by omega)), grd_t (inBe (by omega) (by decide)), nIc (k := y) (by omega), m_men (D := D) (by omega), h.s, ek, show k = 0 by omega, if_pos nI_0]
    · refine cal_no hA (-1) (fun D h => ?_) (fun D h => ?_)
      · rw [F_X10_fight, c_areTwo hn h.n, cbd_s, i1f (fun g => c2 g.1.2)]
      · rw [F_X11_fight, r_isLand hn h.n, cbd_s, i1t c1, r_isLand hn h.n, cbd_s, i1f c2]
  · refine cal_no hA (-1) (fun D h => ?_) (fun D h => ?_)
    · rw [F_X10_fight, c_areTwo hn h.n, cbd_s, i1f (fun g => c1 g.1.1)]
    · rw [F_X11_fight, r_isLand hn h.n, cbd_s, i1f c1]
theorem there_c {D : Dt} {A : Al} (h : RC D A) : D.1 (5, 0, 0, 0) 0 = if (woH (alW A)).1 = true then 1 else 0 := h.1.1.1
theorem there_m {D : Dt} {A : Al} (hA : okA A) (h : RM D A) : (0 < D.1 (11, 0, 2, 0) 0) = ((woH (alW A)).1 = true) := by
  have := h.1.1
  rw [lvR_00] at this
  rw [this]
  exact propext hA.1.2.2.2.1.symm
theorem p_set (a : Int32) : Cal (F_X10_set a) (F_X11_set a) := by
  refine cal_of (fun A hA => ?_)
  by_cases c1 : (woH (alW A)).1 = true
  · by_cases c2 : (1 : Int32) ≤ a ∧ a ≤ 9
    · by_cases c3 : a = woS (alW A) 5 0
      · refine cal_no hA (-1) (fun D h => ?_) (fun D h => ?_)
        · rw [F_X10_set, there_c h, i1t c1, c_within, cbd_s, i1t c2, s_rate, h.s, if_pos c3]
        · rw [F_X11_set, r_isTable, cbd_s]
          simp only [there_m hA h]
          rw [i1t c1, r_in_1_9, cbd_s, i1t c2, m_rate, h.s, if_pos c3.symm]
      · by_cases hp : woP (alW A) ≤ 20
        · have hb : bw a 9 := by
            have := c2
            simp only [fa_le] at this
            have e1 : (1 : Int32).toInt = 1 := rfl
            have e2 : (9 : Int32).toInt = 9 := rfl
            unfold bw
            omega
          refine ⟨woS (alW A) 5 0, (setS (pushW (alW A)) (up (woS (alW A)) 5 0 a), A.2), act_ok hA hp ⟨hA.1.2.2.2.2.2.2.1.1.ur hb, wk_same hA (by simp [up])⟩, fun D h => ?_, fun D h => ?_⟩
          · obtain ⟨D1, e1, r1, s1, q1⟩ := keep_c h
            have m2 : Sm (stS 0) D1 (setI D1 (6, 0, 0, 0) 5 a) := Sm.sI (stS_t _ _ _ _)
            obtain ⟨R2, s2⟩ := act_c r1 m2 (s := up (woS (alW A)) 5 0 a) (by rw [sw_rate, q1, h.s])
            refine ⟨_, ?_, R2, s1.trans s2⟩
            rw [F_X10_set, there_c h, i1t c1, c_within, cbd_s, i1t c2, s_rate, h.s, if_neg c3, e1, vbd_s, s_rate, q1, h.s, bnd_e, bnd_e]
          · obtain ⟨D1, e1, r1, s1⟩ := keep_m h
            have q1 : rdM D1 = woS (alW A) := r1.s
            have m2 : Sm stM D1 (setI D1 (11, 0, 2, 0) 3 a) := Sm.sI (stM_s 0 0 (by decide) (by decide))
            obtain ⟨R2, s2⟩ := act_m r1 m2 (s := up (woS (alW A)) 5 0 a) (by rw [mw_rate, q1])
            refine ⟨_, ?_, R2, s1.trans s2⟩
            rw [F_X11_set, r_isTable, cbd_s]
            simp only [there_m hA h]
            rw [i1t c1, r_in_1_9, cbd_s, i1t c2, m_rate, h.s, if_neg (fun e => c3 e.symm), e1, vbd_s, m_rate, q1, bnd_e, bnd_e]
        · exact ⟨0, A, hA, fun D h => absurd h.1.2.2.1 hp, fun D h => absurd h.1.2.2.2.2.2.2.2.1 hp⟩
    · refine cal_no hA (-1) (fun D h => ?_) (fun D h => ?_)
      · rw [F_X10_set, there_c h, i1t c1, c_within, cbd_s, i1f c2]
      · rw [F_X11_set, r_isTable, cbd_s]
        simp only [there_m hA h]
        rw [i1t c1, r_in_1_9, cbd_s, i1f c2]
  · refine cal_no hA (-1) (fun D h => ?_) (fun D h => ?_)
    · rw [F_X10_set, there_c h, i1f c1]
    · rw [F_X11_set, r_isTable, cbd_s]
      simp only [there_m hA h]
      rw [i1f c1]
theorem wcl0_W {D D' : Dt} (h : Sm (fun la k => wcl 0 la) D D') : Sm cW D D' := cW_of h (fun la k e => by
  simp only [cW, Bool.or_eq_false_iff] at e
  exact e.1.1.1.1.1.1.1)
theorem p_undo : Cal F_X10_undo F_X11_undo := by
  refine cal_of (fun A hA => ?_)
  by_cases hp : woP (alW A) ≤ 20
  · by_cases c : 1 ≤ woP (alW A)
    · obtain ⟨P, hP⟩ : ∃ P, woP (alW A) = P + 1 := ⟨woP (alW A) - 1, by omega⟩
      have hpop : popW (alW A) = ((alW A).1, woF (alW A) P, P, woF (alW A), (alW A).2.2.2.2) := by unfold popW; rw [hP]; rfl
      refine ⟨nI P, (popW (alW A), A.2), hA.setW ?_, fun D h => ?_, fun D h => ?_⟩
      · obtain ⟨h1, h2, h3, h4, h5, h6, h7, h8, h9⟩ := hA.1
        rw [hpop]
        exact ⟨h1, h2, h3, h4, h5, h6, h8 P (by omega), fun j hj => h8 j (by have : j < P := hj; omega), h9⟩
      · obtain ⟨D1, e1, r1, s1⟩ := c_takeBack (w := 0) (by decide) h.1 c
        refine ⟨D1, ?_, h.setW (wcl0_W s1) r1, cW_c (wcl0_W s1)⟩
        rw [F_X10_undo, show F_X0_takeBack 0 0 D = _ from e1, cbd_s, if_neg (by decide)]
        have : D1.1 (0, 0, 0, 0) 1 = nI (woP (popW (alW A))) := r1.2.2.2.1
        rw [this, hpop]
        rfl
      · have h46 : D.1 (11, 0, 0, 0) 46 = nI (P + 1) := by
          have := h.1.2.2.2.2.2.2.2.2.1
          rw [hP] at this
          exact this
        obtain ⟨D1, e1, f1⟩ := r_movesB (D := setI D (11, 0, 0, 0) 46 (nI P)) (i := P) (by omega)
        have g46 : D1.1 (11, 0, 0, 0) 46 = nI P := by rw [f1.2.2.2.1 _ _ (by simp [stM]) (by simp), gI_s]
        have fr : ∀ la k, stM la k = false → ¬ (la = (11, 0, 0, 0) ∧ (k = 46 ∨ k = 47 ∨ k = 48)) → D1.1 la k = D.1 la k := by
          intro la k a b
          rw [f1.2.2.2.1 la k a (fun x => b ⟨x.1, Or.inr x.2⟩), gI, if_neg (fun x => b ⟨x.1, Or.inl x.2⟩)]
        have hst : rdM D1 = woF (alW A) P := by
          rw [f1.rd, ← h.1.2.2.2.2.2.2.2.2.2.1 P (by omega)]
          exact rdP_cong (by omega) (fun k _ => by show (setI D (11, 0, 0, 0) 46 (nI P)).1 (11, 0, 45, 0) k = _; rw [gI, if_neg (by simp)]; rfl)
        refine ⟨D1, ?_, h.setW (fun la k e => fr la k ?_ ?_) ?_, ?_⟩
        · rw [F_X11_undo, h46, if_neg (nI_ne0 (by omega) (by omega)), nI_pred, bnd_e, gI_s, e1, vbd_s, g46]
        · simp only [kpM, stM, Bool.and_eq_true, Bool.or_eq_true, beq_iff_eq, decide_eq_true_eq, Bool.and_eq_false_iff, Bool.or_eq_false_iff, decide_eq_false_iff_not, beq_eq_false_iff_ne] at e ⊢
          omega
        · rintro ⟨rfl, hk⟩
          simp [kpM] at e
          omega
        · rw [hpop]
          have r0 : RW (lvR (setI D (11, 0, 0, 0) 46 (nI P))) ((alW A).1, (alW A).2.1, P, woF (alW A), (alW A).2.2.2.2) := by
            refine h.1.past (fun q k a b => lvR_q (fun la k c1 c2 => by rw [gI, if_neg (fun x => c2 x.1)]) q k a b) (by omega) (by show (setI D (11, 0, 0, 0) 46 (nI P)).1 (11, 0, 0, 0) 46 = _; rw [gI_s]) (fun j hj => ?_)
            rw [← h.1.2.2.2.2.2.2.2.2.2.1 j (by omega)]
            exact rdP_cong (by omega) (fun k _ => by show (setI D (11, 0, 0, 0) 46 (nI P)).1 (11, 0, 45, 0) k = _; rw [gI, if_neg (by simp)]; rfl)
          refine RW.st r0 (fun q k hq => ?_) (fun k hk => ?_) (by rw [lvR_rd]; exact hst)
          · have a1 : ¬ q = 0 := by omega
            have a2 : ¬ q ≤ 5 := by omega
            simp only [lvR, a1, a2, if_false]
            by_cases c6 : q = 6
            · rw [if_pos c6, if_pos c6, g46, gI_s]
            · rw [if_neg c6, if_neg c6]
              by_cases c13 : q ≤ 13
              · rw [if_pos c13, if_pos c13, f1.2.2.2.1 _ _ (by simp [stM]; omega) (by simp)]
              · rw [if_neg c13, if_neg c13, f1.2.2.2.1 _ _ (by simp [stM]) (by simp)]
          · rw [lvR_00, lvR_00, f1.2.2.2.1 _ _ (by simp [stM]; omega) (by simp)]
        · intro la k e
          have n11 : ¬ la.1 = 11 := by simpa [mS] using e
          refine ⟨fr la k (by simp [stM, n11]) (fun x => n11 (by rw [x.1])), by rw [f1.1]; rfl, by rw [f1.1]; rfl⟩
    · have h0 : woP (alW A) = 0 := by omega
      refine cal_no hA (-2) (fun D h => ?_) (fun D h => ?_)
      · rw [F_X10_undo, F_X0_takeBack, grd_t (V0 (by decide)), grd_t vv0, h.1.2.2.2.1, h0, if_neg (show ¬ (1 : Int32) ≤ nI 0 by decide), cbd_s, if_pos rfl]
      · have := h.1.2.2.2.2.2.2.2.2.1
        rw [F_X11_undo, show D.1 (11, 0, 0, 0) 46 = _ from this, h0, if_pos nI_0]
  · exact ⟨0, A, hA, fun D h => absurd h.1.2.2.1 hp, fun D h => absurd h.1.2.2.2.2.2.2.2.1 hp⟩
