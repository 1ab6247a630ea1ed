theorem wcl_ne {w w' : Nat} {la : LA} (hne : w ≠ w') (h : wcl w la = true) : wcl w' la = false := by
  simp only [wcl, Bool.or_eq_true, Bool.and_eq_true, beq_iff_eq, decide_eq_true_eq, Bool.or_eq_false_iff, Bool.and_eq_false_iff, decide_eq_false_iff_not, beq_eq_false_iff_ne] at h ⊢
  omega
theorem wcl_x {w : Nat} {la : LA} (h : ¬ (la.1 = 0 ∨ la.1 = 5 ∨ la.1 = 9 ∨ la.1 = 6)) : wcl w la = false := by
  simp only [wcl, Bool.or_eq_false_iff, Bool.and_eq_false_iff, decide_eq_false_iff_not, beq_eq_false_iff_ne]
  omega
theorem RC_img {D D' : Dt} {A : Al} {k : Nat} {W : Wo} (r : RC D A) (hk : k < 4) (s : Sm (fun la _ => wcl (k + 1) la) D D') (h : RCw D' (k + 1) W) : RC (setI D' (10, 0, 9, 0) k 1) (A.1, (fun j => if j = k then some W else alI A j), A.2.2) := by
  obtain ⟨h1, h2, h3, h4, h5, h6, h7, h8⟩ := r
  have s2 : Sm (fun la j => la == (10, 0, 9, 0)) D' (setI D' (10, 0, 9, 0) k 1) := Sm.sI (by simp)
  have zz : ∀ w (la : LA) (j : Nat), wcl w la = true → (la == (10, 0, 9, 0)) = false := by
    intro w la j e
    rw [beq_eq_false_iff_ne]
    rintro rfl
    simp [wcl] at e
  refine ⟨(h1.sm s (fun la j e => wcl_ne (by omega) e)).sm s2 (zz 0), fun w hw => ?_, fun j hj => ?_, fun j W' hj hW => ?_, ?_, fun r hr => ((h6 r hr).sm s (fun q j _ => wcl_x (by simp))).sm s2 (fun q j _ => by simp), ?_, fun j hj => ?_⟩
  · by_cases c : w = k + 1
    · subst c
      obtain ⟨_, _, _, _, ⟨p, hp, _⟩, _⟩ := h
      exact ⟨p, hp.sm s2 (fun j => by simp)⟩
    · obtain ⟨p, hp⟩ := h2 w hw
      exact ⟨p, (hp.sm s (fun j => wcl_ne c (by simp [wcl]))).sm s2 (fun j => by simp)⟩
  · show _ = if (if j = k then some W else alI A j).isSome then _ else _
    rw [gI]
    by_cases c : j = k
    · rw [if_pos ⟨rfl, c⟩, if_pos c]
      rfl
    · rw [if_neg (fun x => c x.2), if_neg c, s.i (wcl_x (by simp))]
      exact h3 j hj
  · have hW' : (if j = k then some W else alI A j) = some W' := hW
    by_cases c : j = k
    · rw [if_pos c] at hW'
      cases hW'
      rw [c]
      exact h.sm s2 (zz _)
    · rw [if_neg c] at hW'
      exact ((h4 j W' hj hW').sm s (fun la i e => wcl_ne (by omega) e)).sm s2 (zz _)
  · rw [gI, if_neg (by simp), s.i (wcl_x (by simp))]; exact h5
  · rw [gI, if_neg (by simp), s.i (wcl_x (by simp))]; exact h7
  · rw [gI, if_neg (by simp), s.i (wcl_x (by simp))]; exact h8 j hj
theorem Fq'.img {i : Nat} {D0 D : Dt} {W : Wo} (h : Fq' (1000 * i) D0 D 15) (r : RW (lvR D0) W) : RW (imR D i) W := r.cong (fun q k hq hk => h.2.2.2.2.1 q k hq hk)
theorem Fq'.lv {z : Nat} {D0 D : Dt} {n : Nat} {W : Wo} (h : Fq' z D0 D n) (r : RW (lvR D0) W) : RW (lvR D) W := r.cong (fun q k hq hk => by
  by_cases c6 : q = 6
  · subst c6
    exact h.2.2.2.1 _ _ (by simp) (by simp) (by simp)
  · rw [← lvA_lv q hq c6, ← lvA_lv q hq c6]
    obtain ⟨_, _, a3, a4⟩ := lvA_sh q hq
    exact h.2.2.2.1 _ _ a3 (lvA_46 q hq c6) (fun x => a4 x.1))
theorem vnb1 : vp_nar .boolean 1 = 1 := by rfl
theorem p_image (a : Int32) : Cal (F_X10_image a) (F_X11_image a) := by
  refine cal_of (fun A hA => ?_)
  by_cases c : (0 : Int32) ≤ a ∧ a ≤ 3
  · obtain ⟨k, hk, rfl⟩ := nI_of2 (x := a) (M := 3) (n := 3) rfl (fun g => (fa_of_lt g).2.1 c.1) c.2
    refine ⟨woS (alW A) 5 1, (A.1, (fun j => if j = k then some (alW A) else alI A j), A.2.2), ?_, fun D h => ?_, fun D h => ?_⟩
    · obtain ⟨h1, h2, h3⟩ := hA
      refine ⟨h1, fun j W hj hW => ?_, h3⟩
      have hW' : (if j = k then some (alW A) else alI A j) = some W := hW
      by_cases g : j = k
      · rw [if_pos g] at hW'
        cases hW'
        exact h1
      · rw [if_neg g] at hW'
        exact h2 j W hj hW'
    · obtain ⟨p, hp⟩ := h.2.1 (k + 1) (by omega)
      obtain ⟨D1, e1, r1, s1⟩ := c_wCopy (i := k + 1) (j := 0) (by omega) (by decide) (by omega) h.1 hp
      have R := RC_img h (show k < 4 by omega) s1 r1
      refine ⟨_, ?_, R, (s1.mono (fun la j e => ?_)).trans (Sm.sI (by simp [cS]))⟩
      · have hs := R.1.2.1
        rw [F_X10_image, c_within, cbd_s, i1t c, grd_t (inBe (show k < 4 by omega) (by decide)), nIc (by omega), e1, vbd_s, vnb1, bnd_e, s_week, show rdS (setI D1 (10, 0, 9, 0) k 1) 0 = _ from hs]
        rfl
      · have : la.1 = 11 := by simpa [cS] using e
        exact wcl_x (by omega)
    · obtain ⟨D1, e1, f1⟩ := r_carryF (i := k) (D := setI D (11, 0, 56, 0) k 1) (by omega)
      have lv0 : RW (lvR (setI D (11, 0, 56, 0) k 1)) (alW A) := h.1.cong (fun q j hq hj => by
        have : lvR (setI D (11, 0, 56, 0) k 1) q j = lvR D q j := by
          by_cases c6 : q = 6
          · subst c6
            show (setI D (11, 0, 56, 0) k 1).1 (11, 0, 0, 0) 46 = D.1 (11, 0, 0, 0) 46
            rw [gI, if_neg (by simp)]
          · rw [← lvA_lv q hq c6, ← lvA_lv q hq c6, gI, if_neg]
            rintro ⟨x, _⟩
            have : ∀ q, q < 15 → lvA q ≠ (11, 0, 56, 0) := by decide
            exact this q hq x
        exact this)
      have lv1 := f1.lv lv0
      have im1 := f1.img lv0
      obtain ⟨h1, h2, h3, h4, h5, h6, h7, h8, h9, h10, h11⟩ := h
      have fr : ∀ la j, la ≠ (11, 0, 55, 0) → la ≠ (11, 0, 46, 0) → la ≠ (11, 0, 56, 0) → ¬ (la = (11, 0, 0, 0) ∧ (j = 56 ∨ j = 57)) → D1.1 la j = D.1 la j := by
        intro la j c1 c2 c3 c4
        rw [f1.2.2.2.1 la j c1 c2 c4, gI, if_neg (fun x => c3 x.1)]
      refine ⟨D1, ?_, ⟨lv1, fun j hj => ?_, fun j W hj hW => ?_, ?_, fun r hr => ?_, ?_, fun j hj => ?_, ?_, ?_, ?_, ?_⟩, ?_⟩
      · have hs : rdM D1 = woS (alW A) := by rw [← lvR_rd]; exact lv1.2.2.2.1
        rw [F_X11_image, r_in_0_3, cbd_s, i1t c, grd_t (inBe (show k < 4 by omega) (by decide)), nIc (by omega), vnb1, bnd_e, e1, vbd_s, m_week, hs]
      · show D1.1 (11, 0, 56, 0) j = if (if j = k then some (alW A) else alI A j).isSome then _ else _
        rw [f1.2.2.2.1 _ _ (by simp) (by simp) (by simp), gI]
        by_cases g : j = k
        · rw [if_pos ⟨rfl, g⟩, if_pos g]; rfl
        · rw [if_neg (fun x => g x.2), if_neg g]; exact h2 j hj
      · have hW' : (if j = k then some (alW A) else alI A j) = some W := hW
        by_cases g : j = k
        · rw [if_pos g] at hW'
          cases hW'
          rw [g]
          exact im1
        · rw [if_neg g] at hW'
          refine (h3 j W hj hW').cong (fun q i hq hi => ?_)
          have := roO_b q hq
          show D1.1 (11, 0, 55, 0) _ = D.1 (11, 0, 55, 0) _
          have e15 : roE 15 = 945 := rfl
          rw [f1.2.2.2.2.2 _ (by omega), gI, if_neg (by simp)]
      · rw [fr _ _ (by simp) (by simp) (by simp) (by simp)]; exact h4
      · refine (h5 r hr).sm (S := fun la j => !(decide (la.1 = 11 ∧ 31 ≤ la.2.2.1 ∧ la.2.2.1 ≤ 36))) ?_ (fun q j a b => by simp [a, b])
        intro la j e
        have e' : la.1 = 11 ∧ 31 ≤ la.2.2.1 ∧ la.2.2.1 ≤ 36 := by simpa using e
        refine ⟨fr la j ?_ ?_ ?_ ?_, by rw [f1.1]; rfl, by rw [f1.1]; rfl⟩
        · rintro rfl; simp at e'
        · rintro rfl; simp at e'
        · rintro rfl; simp at e'
        · rintro ⟨rfl, _⟩; simp at e'
      · rw [fr _ _ (by simp) (by simp) (by simp) (by simp)]; exact h6
      · rw [fr _ _ (by simp) (by simp) (by simp) (by simp)]; exact h7 j hj
      · rw [fr _ _ (by simp) (by simp) (by simp) (by simp)]; exact h8
      · rw [fr _ _ (by simp) (by simp) (by simp) (by simp)]; exact h9
      · rw [fr _ _ (by simp) (by simp) (by simp) (by simp)]; exact h10
      · rw [fr _ _ (by simp) (by simp) (by simp) (by simp)]; exact h11
      · intro la j e
        have n11 : ¬ la.1 = 11 := by simpa [mS] using e
        refine ⟨fr la j ?_ ?_ ?_ ?_, by rw [f1.1]; rfl, by rw [f1.1]; rfl⟩
        · rintro rfl; exact n11 rfl
        · rintro rfl; exact n11 rfl
        · rintro rfl; exact n11 rfl
        · rintro ⟨rfl, _⟩; exact n11 rfl
  · refine cal_no hA (-1) (fun D h => ?_) (fun D h => ?_)
    · rw [F_X10_image, c_within, cbd_s, i1f c]
    · rw [F_X11_image, r_in_0_3, cbd_s, i1f c]
theorem p_back (a : Int32) : Cal (F_X10_back a) (F_X11_back a) := by
  refine cal_of (fun A hA => ?_)
  by_cases c : (0 : Int32) ≤ a ∧ a ≤ 3
  · obtain ⟨k, hk, rfl⟩ := nI_of2 (x := a) (M := 3) (n := 3) rfl (fun g => (fa_of_lt g).2.1 c.1) c.2
    cases hI : alI A k with
    | none =>
      refine cal_no hA (-1) (fun D h => ?_) (fun D h => ?_)
      · rw [F_X10_back, c_within, cbd_s, i1t c, grd_t (inBe (show k < 4 by omega) (by decide)), nIc (by omega), h.2.2.1 k (by omega), hI, i1f (by simp)]
      · rw [F_X11_back, r_in_0_3, cbd_s, i1t c, grd_t (inBe (show k < 4 by omega) (by decide)), nIc (by omega), h.2.1 k (by omega), hI, i1f (by simp)]
    | some W =>
      refine ⟨woS W 5 1, (W, A.2), hA.setW (hA.2.1 k W (by omega) hI), fun D h => ?_, fun D h => ?_⟩
      · obtain ⟨p, hp⟩ := h.2.1 0 (by decide)
        obtain ⟨D1, e1, r1, s1⟩ := c_wCopy (i := 0) (j := k + 1) (by decide) (by omega) (by omega) (h.2.2.2.1 k W (by omega) hI) hp
        refine ⟨D1, ?_, h.setW (wcl0_W s1) r1, cW_c (wcl0_W s1)⟩
        rw [F_X10_back, c_within, cbd_s, i1t c, grd_t (inBe (show k < 4 by omega) (by decide)), nIc (by omega), h.2.2.1 k (by omega), hI, i1t (by rfl), e1, vbd_s, s_week, show rdS D1 0 = _ from r1.2.1]
      · obtain ⟨D1, e1, f1⟩ := r_carryB (i := k) (D := D) (by omega)
        have lv1 : RW (lvR D1) W := (h.2.2.1 k W (by omega) hI).cong (fun q j hq hj => f1.2.2.2.2 q j hq hj)
        have ff : ∀ la j, kpM la j = true → (∀ q', q' < 15 → la ≠ lvA q') ∧ la ≠ (11, 0, 46, 0) ∧ ¬ (la = (11, 0, 0, 0) ∧ (j = 56 ∨ j = 57 ∨ (j = 46 ∧ 6 < 15))) := by
          intro la j e
          simp only [kpM, Bool.and_eq_true, Bool.or_eq_true, beq_iff_eq, decide_eq_true_eq] at e
          obtain ⟨x1, x2⟩ := e
          have lo : ∀ q', q' < 15 → (lvA q').2.2.1 ≠ 0 ∧ ((lvA q').2.2.1 < 30 ∨ (lvA q').2.2.1 = 45 ∨ (lvA q').2.2.1 = 46) := by decide
          refine ⟨fun q' hq' y => ?_, fun y => ?_, fun y => ?_⟩
          · rw [y] at x2
            have := lo q' hq'
            omega
          · rw [y] at x2
            simp at x2
          · rw [y.1] at x2
            simp at x2
            omega
        refine ⟨D1, ?_, h.setW (fun la j e => ?_) lv1, fun la j e => ?_⟩
        · have hs : rdM D1 = woS W := by rw [← lvR_rd]; exact lv1.2.2.2.1
          rw [F_X11_back, r_in_0_3, cbd_s, i1t c, grd_t (inBe (show k < 4 by omega) (by decide)), nIc (by omega), h.2.1 k (by omega), hI, i1t (by rfl), e1, vbd_s, m_week, hs]
        · obtain ⟨y1, y2, y3⟩ := ff la j e
          exact f1.2.2.2.1 la j y1 y2 y3
        · have n11 : ¬ la.1 = 11 := by simpa [mS] using e
          have lo : ∀ q', q' < 15 → (lvA q').1 = 11 := by decide
          refine ⟨f1.2.2.2.1 la j (fun q' hq' y => n11 (by rw [y]; exact lo q' hq')) (fun y => n11 (by rw [y])) (fun y => n11 (by rw [y.1])), by rw [f1.1], by rw [f1.1]⟩
  · refine cal_no hA (-1) (fun D h => ?_) (fun D h => ?_)
    · rw [F_X10_back, c_within, cbd_s, i1f c]
    · rw [F_X11_back, r_in_0_3, cbd_s, i1f c]
