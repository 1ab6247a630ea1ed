theorem i1t {α : Type} {c : Prop} [Decidable c] {X Y : α} (h : c) : (if (if c then (1 : Int32) else 0) = 0 then X else Y) = Y := by rw [if_pos h, if_neg (by decide)]
theorem i1f {α : Type} {c : Prop} [Decidable c] {X Y : α} (h : ¬ c) : (if (if c then (1 : Int32) else 0) = 0 then X else Y) = X := by rw [if_neg h, if_pos rfl]
/-! ===== ACTS ===== -/
theorem cal_no {fc fm : Dt → Option (Int32 × Dt)} {A : Al} (hA : okA A) (r : Int32) (h1 : ∀ D, RC D A → fc D = some (r, D)) (h2 : ∀ D, RM D A → fm D = some (r, D)) : ∃ r A', okA A' ∧ (∀ D, RC D A → ∃ D', fc D = some (r, D') ∧ RC D' A' ∧ Sm cS D D') ∧ (∀ D, RM D A → ∃ D', fm D = some (r, D') ∧ RM D' A' ∧ Sm mS D D') := ⟨r, A, hA, fun D h => ⟨D, h1 D h, h, Sm.refl⟩, fun D h => ⟨D, h2 D h, h, Sm.refl⟩⟩
theorem keep_c {D : Dt} {A : Al} (h : RC D A) : ∃ D', F_X0_keep 0 0 D = some D' ∧ RC D' (pushW (alW A), A.2) ∧ Sm cS D D' ∧ rdS D' 0 = rdS D 0 := by
  obtain ⟨D', e, r, s⟩ := c_keep (w := 0) (by decide) h.1
  exact ⟨D', e, h.setW (pc0_W s) r, cW_c (pc0_W s), rdS_sm s (fun q k => pcS_6 (by omega))⟩
theorem keep_m {D : Dt} {A : Al} (h : RM D A) : ∃ D', F_X11_keepsAct D = some D' ∧ RM D' (pushW (alW A), A.2) ∧ Sm mS D D' := by
  obtain ⟨D', e, r, s⟩ := r_keepsAct h.1
  exact ⟨D', e, h.setW (kaS_kp s) r, kaS_m s⟩
theorem act_ok {A : Al} {s : St} (hA : okA A) (hp : woP (alW A) ≤ 20) (hs : Gd (shN (woH (alW A))) s ∧ ∃ w, w ≤ 999 ∧ s 5 1 = nI w) : okA (setS (pushW (alW A)) s, A.2) := hA.setW ((hA.1.push hp).setS hs)
theorem act_c {D D' : Dt} {A : Al} {s : St} (h : RC D A) (hs : Sm (stS 0) D D') (hr : rdS D' 0 = s) : RC D' (setS (alW A) s, A.2) ∧ Sm cS D D' := ⟨h.setW (st0_W hs) (h.1.st (w := 0) hs hr), cW_c (st0_W hs)⟩
theorem act_m {D D' : Dt} {A : Al} {s : St} (h : RM D A) (hs : Sm stM D D') (hr : rdM D' = s) : RM D' (setS (alW A) s, A.2) ∧ Sm mS D D' := ⟨h.setW (stM_kp hs) (h.1.setSt hs hr), stM_m hs⟩
theorem wk_same {A : Al} {s : St} (hA : okA A) (h : s 5 1 = woS (alW A) 5 1) : ∃ w, w ≤ 999 ∧ s 5 1 = nI w := by
  obtain ⟨w, h1, h2⟩ := hA.1.2.2.2.2.2.2.1.2
  exact ⟨w, h1, h.trans h2⟩
theorem vv0 : V (6, 0, 0, 0) = true := by decide
theorem may_b {A : Al} {a b : Nat} : pMay (woS (alW A)) a b = true ∨ pMay (woS (alW A)) a b = false := by
  cases pMay (woS (alW A)) a b <;> simp
theorem p_swap (a b : Int32) : Cal (F_X10_swap a b) (F_X11_swap a b) := by
  refine cal_of (fun A hA => ?_)
  have hn := hA.1.1
  by_cases c1 : inB a (shN (woH (alW A))) = true
  · obtain ⟨x, hx, rfl⟩ := inB_ex c1 (by omega)
    by_cases c2 : inB b (shN (woH (alW A))) = true
    · obtain ⟨y, hy, rfl⟩ := inB_ex c2 (by omega)
      by_cases c4 : pMay (woS (alW A)) x y = true
      · have hne : ¬ nI x = nI y := fun e => (pMay_x c4).1 ((nI_eq (by omega) (by omega)).mp e)
        by_cases hp : woP (alW A) ≤ 20
        · refine ⟨pBuy (woS (alW A)) x y 0 x, (setS (pushW (alW A)) (pBuy (woS (alW A)) x y), A.2), act_ok hA hp ⟨hA.1.2.2.2.2.2.2.1.1.buy hx hy c4, wk_same hA wk_buy⟩, fun D h => ?_, fun D h => ?_⟩
          · obtain ⟨D1, e1, r1, s1, q1⟩ := keep_c h
            obtain ⟨D2, e2, r2, m2⟩ := c_buy (D := D1) (i := 0) (a := x) (b := y) vv0 (by omega) (by omega)
            rw [q1, h.s] at r2
            obtain ⟨R2, s2⟩ := act_c r1 m2 r2
            refine ⟨D2, ?_, R2, s1.trans s2⟩
            rw [F_X10_swap, c_areTwo hn h.n, cbd_s, i1t ⟨⟨c1, c2⟩, hne⟩, c_mayBuy vv0 (by omega) (by omega), cbd_s, h.s, c4, i1t rfl, e1, vbd_s, e2, vbd_s, grd_t (inBe (by omega) (by decide)), nIc (by omega), s_men (by omega), r2]
          · obtain ⟨D1, e1, r1, s1⟩ := keep_m h
            obtain ⟨D2, e2, r2, m2⟩ := r_buys (D := D1) (a := x) (b := y) (by omega) (by omega)
            rw [show rdM D1 = woS (alW A) from r1.s] at r2
            obtain ⟨R2, s2⟩ := act_m r1 m2 r2
            refine ⟨D2, ?_, R2, s1.trans s2⟩
            rw [F_X11_swap, r_isLand hn h.n, cbd_s, i1t c1, r_isLand hn h.n, cbd_s, i1t c2, r_canBuy (by omega) (by omega), cbd_s, h.s, c4, h.2.2.2.2.2.2.2.1, has0 y (by omega)]
            simp only [Bool.not_false, Bool.and_true, if_true]
            rw [if_neg (by decide), e1, vbd_s, e2, vbd_s, grd_t (inBe (by omega) (by decide)), nIc (by omega), m_men (by omega), r2]
        · exact ⟨0, A, hA, fun D h => absurd h.1.2.2.1 hp, fun D h => absurd h.1.2.2.2.2.2.2.2.1 hp⟩
      · have c4' : pMay (woS (alW A)) x y = false := by simpa using c4
        refine cal_no hA (-1) (fun D h => ?_) (fun D h => ?_)
        · rw [F_X10_swap, c_areTwo hn h.n, cbd_s]
          simp only [if1]
          by_cases hne : nI x = nI y
          · rw [if_pos (fun g => g.2 hne)]
          · rw [if_neg (fun g => g ⟨⟨c1, c2⟩, hne⟩), c_mayBuy vv0 (by omega) (by omega), cbd_s, h.s, c4', i1f (by decide)]
        · rw [F_X11_swap, r_isLand hn h.n, cbd_s, i1t c1, r_isLand hn h.n, cbd_s, i1t c2, r_canBuy (by omega) (by omega), cbd_s, h.s, c4']
          rfl
    · refine cal_no hA (-1) (fun D h => ?_) (fun D h => ?_)
      · rw [F_X10_swap, c_areTwo hn h.n, cbd_s, i1f (fun g => c2 g.1.2)]
      · rw [F_X11_swap, r_isLand hn h.n, cbd_s, i1t c1, r_isLand hn h.n, cbd_s, i1f c2]
  · refine cal_no hA (-1) (fun D h => ?_) (fun D h => ?_)
    · rw [F_X10_swap, c_areTwo hn h.n, cbd_s, i1f (fun g => c1 g.1.1)]
    · rw [F_X11_swap, r_isLand hn h.n, cbd_s, i1f c1]
theorem l64 : (1 : Int64) = (1 : Int32).toInt64 ∧ (9 : Int64) = (9 : Int32).toInt64 ∧ (99 : Int64) = (99 : Int32).toInt64 ∧ (0 : Int64) = (0 : Int32).toInt64 ∧ (60 : Int64) = (60 : Int32).toInt64 ∧ (-1 : Int64) = (-1 : Int32).toInt64 ∧ (3 : Int64) = (3 : Int32).toInt64 ∧ (4 : Int64) = (4 : Int32).toInt64 ∧ (2 : Int64) = (2 : Int32).toInt64 ∧ (100 : Int64) = (100 : Int32).toInt64 ∧ (9999 : Int64) = (9999 : Int32).toInt64 ∧ (10 : Int64) = (10 : Int32).toInt64 := by decide
theorem r_in_0_60 {a : Int32} {D : Dt} : F_X11_in a.toInt64 0 60 D = some (if (0 : Int32) ≤ a ∧ a ≤ 60 then 1 else 0, D) := r_in (b := 0) (c := 60)
theorem r_in_1_99 {a : Int32} {D : Dt} : F_X11_in a.toInt64 1 99 D = some (if (1 : Int32) ≤ a ∧ a ≤ 99 then 1 else 0, D) := r_in (b := 1) (c := 99)
theorem r_in_1_9 {a : Int32} {D : Dt} : F_X11_in a.toInt64 1 9 D = some (if (1 : Int32) ≤ a ∧ a ≤ 9 then 1 else 0, D) := r_in (b := 1) (c := 9)
theorem r_in_1_60 {a : Int32} {D : Dt} : F_X11_in a.toInt64 1 60 D = some (if (1 : Int32) ≤ a ∧ a ≤ 60 then 1 else 0, D) := r_in (b := 1) (c := 60)
theorem r_in_0_1 {a : Int32} {D : Dt} : F_X11_in a.toInt64 0 1 D = some (if (0 : Int32) ≤ a ∧ a ≤ 1 then 1 else 0, D) := r_in (b := 0) (c := 1)
theorem r_in_0_2 {a : Int32} {D : Dt} : F_X11_in a.toInt64 0 2 D = some (if (0 : Int32) ≤ a ∧ a ≤ 2 then 1 else 0, D) := r_in (b := 0) (c := 2)
theorem r_in_0_3 {a : Int32} {D : Dt} : F_X11_in a.toInt64 0 3 D = some (if (0 : Int32) ≤ a ∧ a ≤ 3 then 1 else 0, D) := r_in (b := 0) (c := 3)
theorem r_in_0_4 {a : Int32} {D : Dt} : F_X11_in a.toInt64 0 4 D = some (if (0 : Int32) ≤ a ∧ a ≤ 4 then 1 else 0, D) := r_in (b := 0) (c := 4)
theorem r_in_1_4 {a : Int32} {D : Dt} : F_X11_in a.toInt64 1 4 D = some (if (1 : Int32) ≤ a ∧ a ≤ 4 then 1 else 0, D) := r_in (b := 1) (c := 4)
theorem r_in_0_100 {a : Int32} {D : Dt} : F_X11_in a.toInt64 0 100 D = some (if (0 : Int32) ≤ a ∧ a ≤ 100 then 1 else 0, D) := r_in (b := 0) (c := 100)
theorem r_in_0_9999 {a : Int32} {D : Dt} : F_X11_in a.toInt64 0 9999 D = some (if (0 : Int32) ≤ a ∧ a ≤ 9999 then 1 else 0, D) := r_in (b := 0) (c := 9999)
theorem r_in_1_9999 {a : Int32} {D : Dt} : F_X11_in a.toInt64 1 9999 D = some (if (1 : Int32) ≤ a ∧ a ≤ 9999 then 1 else 0, D) := r_in (b := 1) (c := 9999)
theorem r_in_1_10 {a : Int32} {D : Dt} : F_X11_in a.toInt64 1 10 D = some (if (1 : Int32) ≤ a ∧ a ≤ 10 then 1 else 0, D) := r_in (b := 1) (c := 10)
theorem wk_move {s : St} {a b : Nat} {v : Int32} : pMove s a b v 5 1 = s 5 1 := by simp [pMove, pAddM, up]
theorem p_give (a b v : Int32) : Cal (F_X10_give a b v) (F_X11_give a b v) := by
  refine cal_of (fun A hA => ?_)
  have hn := hA.1.1
  by_cases c1 : inB a (shN (woH (alW A))) = true
  · obtain ⟨x, hx, rfl⟩ := inB_ex c1 (by omega)
    by_cases c2 : inB b (shN (woH (alW A))) = true
    · obtain ⟨y, hy, rfl⟩ := inB_ex c2 (by omega)
      by_cases hne : nI x = nI y
      · refine cal_no hA (-1) (fun D h => ?_) (fun D h => ?_)
        · rw [F_X10_give, c_areTwo hn h.n, cbd_s, i1f (fun g => g.2 hne)]
        · rw [F_X11_give, r_isLand hn h.n, cbd_s, i1t c1, r_isLand hn h.n, cbd_s, i1t c2, if_pos hne]
      · by_cases c3 : (1 : Int32) ≤ v ∧ v ≤ 99
        · by_cases c4 : v ≤ woS (alW A) 0 x
          · by_cases hp : woP (alW A) ≤ 20
            · have hbv : bw v 999 := by
                have := c3
                simp only [fa_le] at this
                have e1 : (1 : Int32).toInt = 1 := rfl
                have e2 : (99 : Int32).toInt = 99 := rfl
                unfold bw
                omega
              refine ⟨pMove (woS (alW A)) x y v 0 x, (setS (pushW (alW A)) (pMove (woS (alW A)) x y v), A.2), act_ok hA hp ⟨hA.1.2.2.2.2.2.2.1.1.move hx hy hbv ((fa_le _ _).mp c4), wk_same hA wk_move⟩, fun D h => ?_, fun D h => ?_⟩
              · obtain ⟨D1, e1, r1, s1, q1⟩ := keep_c h
                obtain ⟨D2, e2, r2, m2⟩ := c_moveMen (D := D1) (i := 0) (a := x) (b := y) (v := v) vv0 (by omega) (by omega)
                rw [q1, h.s] at r2
                obtain ⟨R2, s2⟩ := act_c r1 m2 r2
                refine ⟨D2, ?_, R2, s1.trans s2⟩
                rw [F_X10_give, c_areTwo hn h.n, cbd_s, i1t ⟨⟨c1, c2⟩, hne⟩, c_within, cbd_s, i1t c3, grd_t (inBe (by omega) (by decide)), nIc (by omega), s_men (by omega), h.s, if_pos c4, e1, vbd_s, e2, vbd_s, s_men (by omega), r2]
              · obtain ⟨D1, e1, r1, s1⟩ := keep_m h
                have q1 : rdM D1 = woS (alW A) := r1.s
                generalize hD2 : setI (setI D1 (11, 0, 3, 0) x (D1.1 (11, 0, 3, 0) x - v)) (11, 0, 3, 0) y (if (setI D1 (11, 0, 3, 0) x (D1.1 (11, 0, 3, 0) x - v)).1 (11, 0, 3, 0) y + v < 999 then (setI D1 (11, 0, 3, 0) x (D1.1 (11, 0, 3, 0) x - v)).1 (11, 0, 3, 0) y + v else 999) = D2
                have m2 : Sm stM D1 D2 := by rw [← hD2]; exact (Sm.sI (stM_r 0 (by decide) (by decide))).trans (Sm.sI (stM_r 0 (by decide) (by decide)))
                have r2 : rdM D2 = pMove (woS (alW A)) x y v := by
                  rw [← hD2]
                  simp (disch := omega) only [mw_men, m_men, q1, pMove, pAddM]
                obtain ⟨R2, s2⟩ := act_m r1 m2 r2
                refine ⟨D2, ?_, R2, s1.trans s2⟩
                rw [F_X11_give, r_isLand hn h.n, cbd_s, i1t c1, r_isLand hn h.n, cbd_s, i1t c2, if_neg hne, r_in_1_99, cbd_s, i1t c3, grd_t (inBe (by omega) (by decide)), nIc (k := x) (by omega), m_men (D := D) (by omega), h.s, if_pos c4, e1, vbd_s]
                simp only [bnd_e]
                rw [grd_t (inBe (show y < 5 by omega) (by decide)), nIc (by omega), r_upTo, cbd_s, hD2, m_men (D := D2) (by omega), r2]
            · exact ⟨0, A, hA, fun D h => absurd h.1.2.2.1 hp, fun D h => absurd h.1.2.2.2.2.2.2.2.1 hp⟩
          · refine cal_no hA (-1) (fun D h => ?_) (fun D h => ?_)
            · rw [F_X10_give, c_areTwo hn h.n, cbd_s, i1t ⟨⟨c1, c2⟩, hne⟩, c_within, cbd_s, i1t c3, grd_t (inBe (by omega) (by decide)), nIc (by omega), s_men (by omega), h.s, if_neg c4]
            · rw [F_X11_give, r_isLand hn h.n, cbd_s, i1t c1, r_isLand hn h.n, cbd_s, i1t c2, if_neg hne, r_in_1_99, cbd_s, i1t c3, grd_t (inBe (by omega) (by decide)), nIc (k := x) (by omega), m_men (D := D) (by omega), h.s, if_neg c4]
        · refine cal_no hA (-1) (fun D h => ?_) (fun D h => ?_)
          · rw [F_X10_give, c_areTwo hn h.n, cbd_s, i1t ⟨⟨c1, c2⟩, hne⟩, c_within, cbd_s, i1f c3]
          · rw [F_X11_give, r_isLand hn h.n, cbd_s, i1t c1, r_isLand hn h.n, cbd_s, i1t c2, if_neg hne, r_in_1_99, cbd_s, i1f c3]
    · refine cal_no hA (-1) (fun D h => ?_) (fun D h => ?_)
      · rw [F_X10_give, c_areTwo hn h.n, cbd_s, i1f (fun g => c2 g.1.2)]
      · rw [F_X11_give, r_isLand hn h.n, cbd_s, i1t c1, r_isLand hn h.n, cbd_s, i1f c2]
  · refine cal_no hA (-1) (fun D h => ?_) (fun D h => ?_)
    · rw [F_X10_give, c_areTwo hn h.n, cbd_s, i1f (fun g => c1 g.1.1)]
    · rw [F_X11_give, r_isLand hn h.n, cbd_s, i1f c1]
