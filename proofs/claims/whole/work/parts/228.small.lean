theorem p_told (a b : Int32) : Cal (F_X10_told a b) (F_X11_told a b) := by
  refine cal_of (fun A hA => ?_)
  have hn := hA.1.1
  by_cases c1 : inB a (shN (woH (alW A))) = true
  · obtain ⟨x, hx, rfl⟩ := inB_ex c1 (by omega)
    by_cases c2 : (0 : Int32) ≤ b ∧ b ≤ 60
    · obtain ⟨y, hy, rfl⟩ := nI_of2 (x := b) (M := 60) (n := 60) rfl (fun g => (fa_of_lt g).2.1 c2.1) c2.2
      have hx2 : (61 : Int32) * nI x + nI y = nI (61 * x + y) := by rw [show (61 : Int32) = nI 61 from rfl, pk_mul, nI_add]
      refine cal_no hA (shTl (woH (alW A)) x y) (fun D h => ?_) (fun D h => ?_)
      · rw [F_X10_told, c_isLand hn h.n, cbd_s, i1t c1, c_within, cbd_s, i1t c2, grd_t (inBe (by omega) (by decide)), grd_t (inBe (show y < 61 by omega) (by decide)), nIc (by omega), nIc (by omega), h.1.1.2.2.2.2.2.1 x y (by omega) (by omega)]
      · rw [F_X11_told, r_isLand hn h.n, cbd_s, i1t c1, r_in_0_60, cbd_s, i1t c2]
        simp only [hx2]
        rw [grd_t (inBe (by omega) (by decide)), nIc (by omega)]
        have := h.1.2.2.2.2.2.2.2.2.2.2.1 x y (by omega) (by omega)
        rw [show D.1 (11, 0, 8, 0) (61 * x + y) = _ from this]
    · refine cal_no hA (-1) (fun D h => ?_) (fun D h => ?_)
      · rw [F_X10_told, c_isLand hn h.n, cbd_s, i1t c1, c_within, cbd_s, i1f c2]
      · rw [F_X11_told, r_isLand hn h.n, cbd_s, i1t c1, r_in_0_60, cbd_s, i1f c2]
  · refine cal_no hA (-1) (fun D h => ?_) (fun D h => ?_)
    · rw [F_X10_told, c_isLand hn h.n, cbd_s, i1f c1]
    · rw [F_X11_told, r_isLand hn h.n, cbd_s, i1f c1]
theorem set9_W {D : Dt} {k : Nat} {v : Int32} : Sm cW D (setI D (9, 0, 0, 0) k v) := Sm.sI (by simp [cW, wcl])
theorem RCw.f9 {D : Dt} {w : Nat} {W : Wo} {v : Int32} (r : RCw D w W) : RCw (setI D (9, w, 0, 0) 7 v) w (W.1, W.2.1, W.2.2.1, W.2.2.2.1, W.2.2.2.2.1, W.2.2.2.2.2.1, W.2.2.2.2.2.2.1, W.2.2.2.2.2.2.2.1, v, W.2.2.2.2.2.2.2.2.2) := by
  obtain ⟨g1, g2, g3, g4, ⟨p, g5, g6⟩, g7, g8, g9, g10, g11⟩ := r
  have e : ∀ (la : LA) j, ¬ (la = (9, w, 0, 0) ∧ j = 7) → (setI D (9, w, 0, 0) 7 v).1 la j = D.1 la j := fun la j h => by rw [gI, if_neg h]
  refine ⟨g1.sm (S := fun la k => la == (9, w, 0, 0)) (Sm.sI (by simp)) (fun _ _ _ => by simp), ?_, g3, ?_, ⟨p, ⟨g5.1, g5.2⟩, fun j hj => ?_⟩, g7, ?_, fun j hj => ?_, ?_, ?_⟩
  · rw [rdS_sI (by simp)]; exact g2
  · rw [e _ _ (by simp)]; exact g4
  · rw [rdS_sI (by simp)]; exact g6 j hj
  · rw [e _ _ (by simp)]; exact g8
  · rw [e _ _ (by simp), e _ _ (by simp), e _ _ (by simp)]; exact g9 j hj
  · rw [gI_s]; rfl
  · rw [e _ _ (by simp)]; exact g11
theorem RCw.d9 {D : Dt} {w : Nat} {W : Wo} {v : Int32} (r : RCw D w W) : RCw (setI D (9, w, 0, 0) 8 v) w (W.1, W.2.1, W.2.2.1, W.2.2.2.1, W.2.2.2.2.1, W.2.2.2.2.2.1, W.2.2.2.2.2.2.1, W.2.2.2.2.2.2.2.1, W.2.2.2.2.2.2.2.2.1, v) := by
  obtain ⟨g1, g2, g3, g4, ⟨p, g5, g6⟩, g7, g8, g9, g10, g11⟩ := r
  have e : ∀ (la : LA) j, ¬ (la = (9, w, 0, 0) ∧ j = 8) → (setI D (9, w, 0, 0) 8 v).1 la j = D.1 la j := fun la j h => by rw [gI, if_neg h]
  refine ⟨g1.sm (S := fun la k => la == (9, w, 0, 0)) (Sm.sI (by simp)) (fun _ _ _ => by simp), ?_, g3, ?_, ⟨p, ⟨g5.1, g5.2⟩, fun j hj => ?_⟩, g7, ?_, fun j hj => ?_, ?_, ?_⟩
  · rw [rdS_sI (by simp)]; exact g2
  · rw [e _ _ (by simp)]; exact g4
  · rw [rdS_sI (by simp)]; exact g6 j hj
  · rw [e _ _ (by simp)]; exact g8
  · rw [e _ _ (by simp), e _ _ (by simp), e _ _ (by simp)]; exact g9 j hj
  · rw [e _ _ (by simp)]; exact g10
  · rw [gI_s]; rfl
/-- a scalar of the reference's beyond the state -/
theorem RW.sc {D : Dt} {W : Wo} {v : Int32} (k : Nat) (hk : k = 7 ∨ k = 8) (r : RW (lvR D) W) : RW (lvR (setI D (11, 0, 2, 0) k v)) (W.1, W.2.1, W.2.2.1, W.2.2.2.1, W.2.2.2.2.1, W.2.2.2.2.2.1, W.2.2.2.2.2.2.1, W.2.2.2.2.2.2.2.1, (if k = 8 then v else W.2.2.2.2.2.2.2.2.1), (if k = 7 then v else W.2.2.2.2.2.2.2.2.2)) := by
  obtain ⟨h1, h2, h3, h4, h5, h6, h7, h8, h9, h10, h11, h12, h13, h14⟩ := r
  have e : ∀ (la : LA) j, ¬ (la = (11, 0, 2, 0) ∧ j = k) → (setI D (11, 0, 2, 0) k v).1 la j = D.1 la j := fun la j h => by rw [gI, if_neg h]
  have lq : ∀ q j, 1 ≤ q → lvR (setI D (11, 0, 2, 0) k v) q j = lvR D q j := by
    intro q j hq
    have a1 : ¬ q = 0 := by omega
    simp only [lvR, a1, if_false]
    by_cases c5 : q ≤ 5
    · rw [if_pos c5, if_pos c5, e _ _ (fun x => by have := x.1; simp at this; omega)]
    · rw [if_neg c5, if_neg c5]
      by_cases c6 : q = 6
      · rw [if_pos c6, if_pos c6, e _ _ (by simp)]
      · rw [if_neg c6, if_neg c6]
        by_cases c13 : q ≤ 13
        · rw [if_pos c13, if_pos c13, e _ _ (fun x => by have := x.1; simp at this; omega)]
        · rw [if_neg c13, if_neg c13, e _ _ (by simp)]
  have l0 : ∀ j, j ≠ k → lvR (setI D (11, 0, 2, 0) k v) 0 j = lvR D 0 j := fun j hj => by rw [lvR_00, lvR_00, e _ _ (by simp [hj])]
  have lk : lvR (setI D (11, 0, 2, 0) k v) 0 k = v := by rw [lvR_00, gI_s]
  refine ⟨?_, ?_, ?_, ?_, ?_, ?_, ?_, h8, ?_, fun j hj => ?_, fun k v hk hv => ?_, h12, fun j hj => ?_, fun k hk => ?_⟩
  · rw [l0 _ (by omega)]; exact h1
  · rw [l0 _ (by omega)]; exact h2
  · rw [l0 _ (by omega)]; exact h3
  · rw [show rdR (lvR (setI D (11, 0, 2, 0) k v)) = rdR (lvR D) from ?_]; exact h4
    rw [lvR_rd, lvR_rd]
    exact rdX_cong (fun q k _ _ => e _ _ (fun x => by have := x.1; simp at this)) (fun j hj => e _ _ (fun x => by have := x.2; omega))
  · rw [l0 _ (by omega)]; exact h5
  · rcases hk with rfl | rfl
    · exact lk
    · rw [l0 _ (by decide)]; exact h6
  · rcases hk with rfl | rfl
    · rw [l0 _ (by decide)]; exact h7
    · exact lk
  · rw [lq _ _ (by decide)]; exact h9
  · have hj20 : j < 20 := Nat.lt_of_lt_of_le hj h8
    rw [rdP_cong hj20 (fun k _ => lq _ _ (by decide))]; exact h10 j hj
  · rw [lq _ _ (by decide)]; exact h11 k v hk hv
  · rw [lq _ _ (by decide), lq _ _ (by decide), lq _ _ (by decide)]; exact h13 j hj
  · rw [lq _ _ (by decide), lq _ _ (by decide), lq _ _ (by decide)]; exact h14 k hk
theorem set2_m {D : Dt} {k : Nat} {v : Int32} : Sm mS D (setI D (11, 0, 2, 0) k v) := Sm.sI (by simp [mS])
theorem set2_kp {D : Dt} {k : Nat} {v : Int32} : ∀ la j, kpM la j = true → (setI D (11, 0, 2, 0) k v).1 la j = D.1 la j := by
  intro la j e
  rw [gI, if_neg]
  rintro ⟨rfl, _⟩
  simp [kpM] at e
theorem p_seed (a : Int32) : Cal (F_X10_seed a) (F_X11_seed a) := by
  refine cal_of (fun A hA => ?_)
  by_cases c : 0 ≤ a
  · refine ⟨woD (alW A), _, hA.setW (W' := ((alW A).1, (alW A).2.1, (alW A).2.2.1, (alW A).2.2.2.1, (alW A).2.2.2.2.1, (alW A).2.2.2.2.2.1, (alW A).2.2.2.2.2.2.1, (alW A).2.2.2.2.2.2.2.1, (alW A).2.2.2.2.2.2.2.2.1, a)) ?_, fun D h => ?_, fun D h => ?_⟩
    · obtain ⟨h1, h2, h3, h4, h5, h6, h7, h8, h9, h10, h11⟩ := hA.1
      exact ⟨h1, h2, h3, h4, h5, h6, h7, h8, h9, h10, c⟩
    · refine ⟨setI D (9, 0, 0, 0) 8 a, ?_, h.setW set9_W h.1.d9, cW_c set9_W⟩
      rw [F_X10_seed, if_pos c, bnd_e, bnd_e, h.1.2.2.2.2.2.2.2.2.2]
    · refine ⟨setI D (11, 0, 2, 0) 7 a, ?_, h.setW set2_kp (h.1.sc 7 (Or.inl rfl)), set2_m⟩
      have := h.1.2.2.2.2.2.1
      rw [F_X11_seed, if_pos c, bnd_e, bnd_e, show D.1 (11, 0, 2, 0) 7 = _ from this]
  · refine cal_no hA (-1) (fun D h => ?_) (fun D h => ?_)
    · rw [F_X10_seed, if_neg c]
    · rw [F_X11_seed, if_neg c]
theorem p_force (a : Int32) : Cal (F_X10_force a) (F_X11_force a) := by
  refine cal_of (fun A hA => ?_)
  have hN := hA.2.2.1
  by_cases c : (-1 : Int32) ≤ a ∧ a ≤ nI (alN A) - 1
  · refine ⟨woC (alW A), _, hA.setW (W' := ((alW A).1, (alW A).2.1, (alW A).2.2.1, (alW A).2.2.2.1, (alW A).2.2.2.2.1, (alW A).2.2.2.2.2.1, (alW A).2.2.2.2.2.2.1, (alW A).2.2.2.2.2.2.2.1, a, (alW A).2.2.2.2.2.2.2.2.2)) ?_, fun D h => ?_, fun D h => ?_⟩
    · obtain ⟨h1, h2, h3, h4, h5, h6, h7, h8, h9, h10, h11⟩ := hA.1
      refine ⟨h1, h2, h3, h4, h5, h6, h7, h8, h9, ?_, h11⟩
      show a = -1 ∨ ∃ r, r < alN A ∧ a = nI r
      by_cases g : a = -1
      · exact Or.inl g
      · have e1 : (nI (alN A) - 1).toInt = (alN A : Int) - 1 := pk_sub_toInt (a := alN A) (b := 1) (by omega) (by decide)
        have em : (-1 : Int32).toInt = -1 := rfl
        have c' := c
        rw [fa_le, fa_le, e1, em] at c'
        have g' : a.toInt ≠ -1 := fun x => g ((fa_eq _ _).mpr (x.trans em.symm))
        obtain ⟨j, hj, e⟩ := nI_of (x := a) (by rw [fa_lt]; have : (0 : Int32).toInt = 0 := rfl; omega)
        rw [e, nI_toInt hj] at c'
        exact Or.inr ⟨j, by omega, e⟩
    · refine ⟨setI D (9, 0, 0, 0) 7 a, ?_, h.setW set9_W h.1.f9, cW_c set9_W⟩
      rw [F_X10_force, h.2.2.2.2.1, c_within, cbd_s, i1t c, bnd_e, bnd_e, h.1.2.2.2.2.2.2.2.2.1]
    · refine ⟨setI D (11, 0, 2, 0) 8 a, ?_, h.setW set2_kp (h.1.sc 8 (Or.inr rfl)), set2_m⟩
      have := h.1.2.2.2.2.2.2.1
      rw [F_X11_force, h.2.2.2.1, show (-1 : Int64) = (-1 : Int32).toInt64 by decide, r_in, cbd_s, i1t c, bnd_e, bnd_e, show D.1 (11, 0, 2, 0) 8 = _ from this]
  · refine cal_no hA (-2) (fun D h => ?_) (fun D h => ?_)
    · rw [F_X10_force, h.2.2.2.2.1, c_within, cbd_s, i1f c]
    · rw [F_X11_force, h.2.2.2.1, show (-1 : Int64) = (-1 : Int32).toInt64 by decide, r_in, cbd_s, i1f c]
theorem p_end (a : Int32) : Cal (F_X10_end a) (F_X11_end a) := by
  refine cal_of (fun A hA => ?_)
  have hL := hA.2.2.2.2.1
  by_cases c : (0 : Int32) ≤ a ∧ a ≤ nI (alL A)
  · obtain ⟨j, hj, e⟩ := nI_of (x := a) (fun g => (fa_of_lt g).2.1 c.1)
    have hjl : j ≤ alL A := by
      have := c.2
      rw [e, nI_leI hj (by omega)] at this
      exact this
    subst e
    refine ⟨nI j, (A.1, A.2.1, A.2.2.1, A.2.2.2.1, j, A.2.2.2.2.2), ?_, fun D h => ?_, fun D h => ?_⟩
    · obtain ⟨h1, h2, h3, h4, h5, h6⟩ := hA
      exact ⟨h1, h2, h3, h4, Nat.le_trans hjl h5, h6⟩
    · refine ⟨setI D (2, 0, 0, 0) 1 (nI j), by rw [F_X10_end, h.2.2.2.2.2.2.1, c_within, cbd_s, i1t c, bnd_e], ?_, Sm.sI (by simp [cS])⟩
      obtain ⟨h1, h2, h3, h4, h5, h6, h7, h8⟩ := h
      have s2 : Sm (fun la k => la == (2, 0, 0, 0)) D (setI D (2, 0, 0, 0) 1 (nI j)) := Sm.sI (by simp)
      have zw : ∀ w (la : LA) (k : Nat), wcl w la = true → (la == (2, 0, 0, 0)) = false := by
        intro w la k e
        rw [beq_eq_false_iff_ne]
        rintro rfl
        simp [wcl] at e
      refine ⟨h1.sm s2 (zw 0), fun w hw => ?_, fun k hk => ?_, fun k W hk hW => (h4 k W hk hW).sm s2 (zw _), ?_, fun r hr => (h6 r hr).sm s2 (fun q k _ => by simp), ?_, fun k hk => ?_⟩
      · obtain ⟨p, hp⟩ := h2 w hw
        exact ⟨p, hp.sm s2 (fun k => by simp)⟩
      · rw [gI, if_neg (by simp)]; exact h3 k hk
      · rw [gI, if_neg (by simp)]; exact h5
      · rw [gI_s]; rfl
      · rw [gI, if_neg (by simp)]; exact h8 k (Nat.lt_of_lt_of_le hk hjl)
    · refine ⟨setI D (11, 0, 0, 0) 19 (nI j), ?_, ?_, Sm.sI (by simp [mS])⟩
      · rw [F_X11_end, if_neg (nI_pos hj), h.2.2.2.2.2.1, if_pos c.2, bnd_e]
      · obtain ⟨h1, h2, h3, h4, h5, h6, h7, h8, h9, h10, h11⟩ := h
        have s2 : Sm (fun la k => la == (11, 0, 0, 0) && k == 19) D (setI D (11, 0, 0, 0) 19 (nI j)) := Sm.sI (by simp)
        have e : ∀ (la : LA) i, ¬ (la = (11, 0, 0, 0) ∧ i = 19) → (setI D (11, 0, 0, 0) 19 (nI j)).1 la i = D.1 la i := fun la i h => by rw [gI, if_neg h]
        refine ⟨?_, fun k hk => ?_, fun k W hk hW => ?_, ?_, fun r hr => (h5 r hr).sm s2 (fun q k _ _ => by simp; omega), ?_, fun k hk => ?_, ?_, ?_, ?_, ?_⟩
        · refine h1.cong (fun q k _ _ => ?_)
          simp only [lvR]
          rw [e _ _ (by simp), e _ _ (by simp), e _ _ (by simp), e _ _ (by simp), e _ _ (by simp)]
        · rw [e _ _ (by simp)]; exact h2 k hk
        · refine (h3 k W hk hW).cong (fun q k _ _ => ?_)
          simp only [imR]
          rw [e _ _ (by simp)]
        · rw [e _ _ (by simp)]; exact h4
        · rw [gI_s]; rfl
        · rw [e _ _ (by simp)]; exact h7 k (Nat.lt_of_lt_of_le hk hjl)
        · rw [e _ _ (by simp)]; exact h8
        · rw [e _ _ (by simp)]; exact h9
        · rw [e _ _ (by simp)]; exact h10
        · rw [e _ _ (by simp)]; exact h11
  · refine cal_no hA (-1) (fun D h => ?_) (fun D h => ?_)
    · rw [F_X10_end, h.2.2.2.2.2.2.1, c_within, cbd_s, i1f c]
    · rw [F_X11_end, h.2.2.2.2.2.1]
      by_cases g : a < 0
      · rw [if_pos g]
      · rw [if_neg g, if_neg (fun x => c ⟨fa_of_nlt g, x⟩)]
/-! sums -/
def sumN (f : Nat → Int32) : Nat → Int32
  | 0 => 0
  | n + 1 => sumN f n + f n
theorem sumN_c {f g : Nat → Int32} : ∀ n, (∀ k, k < n → f k = g k) → sumN f n = sumN g n
  | 0, _ => rfl
  | n + 1, h => by rw [sumN, sumN, sumN_c n (fun k hk => h k (by omega)), h n (by omega)]
theorem sumN_z {f : Nat → Int32} {n : Nat} : ∀ m, (∀ k, n ≤ k → k < n + m → f k = 0) → sumN f (n + m) = sumN f n
  | 0, _ => rfl
  | m + 1, h => by rw [← Nat.add_assoc, sumN, sumN_z m (fun k a b => h k a (by omega)), h (n + m) (by omega) (by omega), Int32.add_zero]
theorem c_total {la : LA} {n : Nat} {D : Dt} (hv : V la = true) (hs : sh la = .inr (0, n)) (hn : n < 1000) : F_X10_total la D = some (sumN (D.1 la) n, D) := by
  have hl : lenOf la = n := by simp only [lenOf, hs]
  rw [F_X10_total, grd_t ⟨hv, by rw [hl]; exact hs⟩]
  have : ∀ m fu j, j + m = n → m < fu → F_X10_total_b4 la fu (sumN (D.1 la) j) (nI j) D = some (sumN (D.1 la) n, D) := by
    intro m
    induction m with
    | zero =>
      intro fu j hj hf
      obtain ⟨fu, rfl⟩ : ∃ g, fu = g + 1 := ⟨fu - 1, by omega⟩
      rw [F_X10_total_b4, hl, if_pos (show Int32.ofNat n ≤ nI j from nI_le (by omega) (by omega)), show j = n by omega]
    | succ m ih =>
      intro fu j hj hf
      obtain ⟨fu, rfl⟩ : ∃ g, fu = g + 1 := ⟨fu - 1, by omega⟩
      rw [F_X10_total_b4, hl, if_neg (show ¬ Int32.ofNat n ≤ nI j from nI_ge (by omega) (by omega)), grd_t (inBe (by omega) (by omega)), nIc (by omega)]
      simp only [bnd_e, nI_1]
      exact ih fu (j + 1) (by omega) (by omega)
  exact this n 2000 0 (by omega) (by omega)
theorem r_allOf {la : LA} {n l : Nat} {D : Dt} (hv : V la = true) (hs : sh la = .inr (0, l)) (hl5 : n ≤ l) (hn : n < 1000) (hl' : l < 100000) (h2 : D.1 (11, 0, 2, 0) 2 = nI n) : F_X11_allOf la D = some (sumN (D.1 la) n, D) := by
  have hl : lenOf la = l := by simp only [lenOf, hs]
  rw [F_X11_allOf, grd_t ⟨hv, by rw [hl]; exact hs⟩]
  have : ∀ m fu j, j + m = n → m < fu → F_X11_allOf_b4 la fu (sumN (D.1 la) j) (nI j) D = some (sumN (D.1 la) n, D) := by
    intro m
    induction m with
    | zero =>
      intro fu j hj hf
      obtain ⟨fu, rfl⟩ : ∃ g, fu = g + 1 := ⟨fu - 1, by omega⟩
      rw [F_X11_allOf_b4, h2, if_pos (nI_le (by omega) (by omega)), show j = n by omega]
    | succ m ih =>
      intro fu j hj hf
      obtain ⟨fu, rfl⟩ : ∃ g, fu = g + 1 := ⟨fu - 1, by omega⟩
      rw [F_X11_allOf_b4, h2, hl, if_neg (nI_ge (by omega) (by omega)), grd_t (inBe (by omega) (by omega)), nIc (by omega)]
      simp only [bnd_e, nI_1]
      exact ih fu (j + 1) (by omega) (by omega)
  exact this n 2000 0 (by omega) (by omega)
def totS (s : St) (q : Nat) : Int32 := sumN (s q) 5
theorem tot_n {n q : Nat} {s : St} (hg : Gd n s) (hn : n ≤ 5) (hq : q < 4) : sumN (s q) n = totS s q := by
  unfold totS
  have : (5 : Nat) = n + (5 - n) := by omega
  rw [this]
  refine (sumN_z (5 - n) (fun k hk _ => ?_)).symm
  have := hg.2.1 k hk
  have : q = 0 ∨ q = 1 ∨ q = 2 ∨ q = 3 := by omega
  rcases this with rfl | rfl | rfl | rfl
  · exact (hg.2.1 k hk).1
  · exact (hg.2.1 k hk).2.1
  · exact (hg.2.1 k hk).2.2.1
  · exact (hg.2.1 k hk).2.2.2
theorem c_totS {D : Dt} {i : Nat} (q : Nat) (hi : V (6, i, 0, 0) = true) (hq : q < 5) : F_X10_total (6, i, q + 1, 0) D = some (totS (rdS D i) q, D) := by
  have hv : V (6, i, q + 1, 0) = true ∧ sh (6, i, q + 1, 0) = .inr (0, 5) := by
    have : q = 0 ∨ q = 1 ∨ q = 2 ∨ q = 3 ∨ q = 4 := by omega
    rcases this with rfl | rfl | rfl | rfl | rfl <;> exact ⟨V_f _ hi (by decide), rfl⟩
  rw [c_total hv.1 hv.2 (by decide), totS, sumN_c 5 (fun k hk => rdS_g q hq hk)]
theorem r_totS {D : Dt} {n : Nat} (q : Nat) (hq : q < 4) (hn : n ≤ 5) (h2 : D.1 (11, 0, 2, 0) 2 = nI n) (hg : Gd n (rdM D)) : F_X11_allOf (11, 0, q + 3, 0) D = some (totS (rdM D) q, D) := by
  have hv : V (11, 0, q + 3, 0) = true ∧ sh (11, 0, q + 3, 0) = .inr (0, 5) := by
    have : q = 0 ∨ q = 1 ∨ q = 2 ∨ q = 3 := by omega
    rcases this with rfl | rfl | rfl | rfl <;> exact ⟨by decide, rfl⟩
  rw [r_allOf hv.1 hv.2 hn (by omega) (by decide) h2, sumN_c n (fun k hk => rdM_g q (by omega) (show k < 5 by omega)), tot_n hg hn hq]
