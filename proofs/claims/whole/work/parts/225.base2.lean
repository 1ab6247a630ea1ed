def cW : LA → Nat → Bool := fun la _ => wcl 0 la || la.1 == 8 || la.1 == 1 || (la.1 == 6 && decide (105 ≤ la.2.1)) || (la.1 == 3 && la.2.2.1 == 8) || la.1 == 4 || la.1 == 7 || (la.1 == 5 && la.2.1 == 5)
theorem cW_c {D D' : Dt} (h : Sm cW D D') : Sm cS D D' := h.mono (fun la k e => by
  have : la.1 = 11 := by simpa [cS] using e
  simp [cW, wcl, this])
theorem cW_of {S : LA → Nat → Bool} {D D' : Dt} (h : Sm S D D') (hz : ∀ la k, cW la k = false → S la k = false) : Sm cW D D' := h.mono hz
theorem RC.setW {D D' : Dt} {A : Al} {W' : Wo} (r : RC D A) (hs : Sm cW D D') (h : RCw D' 0 W') : RC D' (W', A.2) := by
  obtain ⟨h1, h2, h3, h4, h5, h6, h7, h8⟩ := r
  have zw : ∀ w (la : LA) k, 1 ≤ w → w < 5 → wcl w la = true → cW la k = false := by
    intro w la k hw hw5 e
    simp only [wcl, cW, Bool.or_eq_true, Bool.and_eq_true, beq_iff_eq, decide_eq_true_eq, Bool.or_eq_false_iff, Bool.and_eq_false_iff, decide_eq_false_iff_not, beq_eq_false_iff_ne] at e ⊢
    omega
  refine ⟨h, fun w hw => ?_, fun k hk => ?_, fun k W hk hW => (h4 k W hk hW).sm hs (zw (k + 1) · · (by omega) (by omega)), ?_, fun r hr => (h6 r hr).sm hs (fun q k hq => ?_), ?_, fun k hk => ?_⟩
  · by_cases c : w = 0
    · subst c
      obtain ⟨_, _, _, _, ⟨p, hp, _⟩, _⟩ := h
      exact ⟨p, hp⟩
    · obtain ⟨p, hp⟩ := h2 w hw
      exact ⟨p, hp.sm hs (fun k => zw w _ _ (by omega) hw (by simp [wcl]))⟩
  · rw [hs.i (by simp [cW, wcl])]; exact h3 k hk
  · rw [hs.i (by simp [cW, wcl])]; exact h5
  · have : ¬ q = 8 := by omega
    simp [cW, wcl, this]
  · rw [hs.i (by simp [cW, wcl])]; exact h7
  · rw [hs.i (by simp [cW, wcl])]; exact h8 k hk
def kpM : LA → Nat → Bool := fun la k => (la == (11, 0, la.2.2.1, 0)) && (decide (30 ≤ la.2.2.1 ∧ la.2.2.1 ≤ 36) || (la.2.2.1 == 55 && decide (k < 4000)) || la.2.2.1 == 56 || (la.2.2.1 == 0 && (k == 19 || k == 23 || k == 28 || k == 39 || k == 40 || k == 42)))
theorem roO_b : ∀ q, q < 15 → roO q + roL q ≤ 945 := by decide
theorem RM.setW {D D' : Dt} {A : Al} {W' : Wo} (r : RM D A) (hs : ∀ la k, kpM la k = true → D'.1 la k = D.1 la k) (h : RW (lvR D') W') : RM D' (W', A.2) := by
  obtain ⟨h1, h2, h3, h4, h5, h6, h7, h8, h9, h10, h11⟩ := r
  refine ⟨h, fun k hk => ?_, fun k W hk hW => ?_, ?_, fun r hr => ?_, ?_, fun k hk => ?_, ?_, ?_, ?_, ?_⟩
  · rw [hs _ _ (by simp [kpM])]; exact h2 k hk
  · refine (h3 k W hk hW).cong (fun q j hq hj => ?_)
    have := roO_b q hq
    exact hs _ _ (by simp [kpM]; omega)
  · rw [hs _ _ (by simp [kpM])]; exact h4
  · obtain ⟨g1, g2⟩ := h5 r hr
    refine ⟨?_, fun c hc => ?_⟩
    · rw [hs _ _ (by simp [kpM])]; exact g1
    · obtain ⟨a1, a2, a3, a4⟩ := g2 c hc
      refine ⟨?_, ?_, ?_, fun k hk => ?_⟩
      · rw [hs _ _ (by simp [kpM])]; exact a1
      · rw [hs _ _ (by simp [kpM])]; exact a2
      · rw [hs _ _ (by simp [kpM])]; exact a3
      · rw [hs _ _ (by simp [kpM]), hs _ _ (by simp [kpM])]; exact a4 k hk
  · rw [hs _ _ (by simp [kpM])]; exact h6
  · rw [hs _ _ (by simp [kpM])]; exact h7 k hk
  · rw [hs _ _ (by simp [kpM])]; exact h8
  · rw [hs _ _ (by simp [kpM])]; exact h9
  · rw [hs _ _ (by simp [kpM])]; exact h10
  · rw [hs _ _ (by simp [kpM])]; exact h11
theorem okA.setW {A : Al} {W' : Wo} (h : okA A) (hw : okW W' (alN A)) : okA (W', A.2) := ⟨hw, h.2⟩
def setS (W : Wo) (s : St) : Wo := (W.1, s, W.2.2)
theorem okW.push {W : Wo} {nr : Nat} (h : okW W nr) (hp : woP W ≤ 20) : okW (pushW W) nr := by
  obtain ⟨h1, h2, h3, h4, h5, h6, h7, h8, h9⟩ := h
  refine ⟨h1, h2, h3, h4, h5, h6, h7, fun j hj => ?_, h9⟩
  by_cases c : woP W < 20
  · have e1 : woP (pushW W) = woP W + 1 := by show (if woP W < 20 then woP W + 1 else 20) = _; rw [if_pos c]
    have e2 : woF (pushW W) = (fun j => if j = woP W then woS W else woF W j) := by show (if woP W < 20 then _ else _) = _; rw [if_pos c]
    rw [e1] at hj
    rw [e2]
    simp only
    by_cases cj : j = woP W
    · rw [if_pos cj]; exact h7
    · rw [if_neg cj]; exact h8 j (by omega)
  · have e1 : woP (pushW W) = 20 := by show (if woP W < 20 then woP W + 1 else 20) = _; rw [if_neg c]
    have e2 : woF (pushW W) = (fun j => if j = 19 then woS W else woF W (j + 1)) := by show (if woP W < 20 then _ else _) = _; rw [if_neg c]
    rw [e1] at hj
    rw [e2]
    simp only
    by_cases cj : j = 19
    · rw [if_pos cj]; exact h7
    · rw [if_neg cj]; exact h8 (j + 1) (by omega)
theorem okW.setS {W : Wo} {s : St} {nr : Nat} (h : okW W nr) (hs : Gd (shN (woH W)) s ∧ ∃ w, w ≤ 999 ∧ s 5 1 = nI w) : okW (setS W s) nr := by
  obtain ⟨h1, h2, h3, h4, h5, h6, h7, h8, h9⟩ := h
  exact ⟨h1, h2, h3, h4, h5, h6, hs, h8, h9⟩
/-! questions whether -/
theorem r_in {a b c : Int32} {D : Dt} : F_X11_in a.toInt64 b.toInt64 c.toInt64 D = some (if b ≤ a ∧ a ≤ c then 1 else 0, D) := by
  have e1 : (lg_cmp a.toInt64 b.toInt64 < 0) = (a < b) := by rw [lg_cmp_lt, fa_wide_lt]
  have e2 : (0 < lg_cmp a.toInt64 c.toInt64) = (c < a) := by rw [lg_cmp_gt, fa_wide_lt]
  unfold F_X11_in
  simp only [e1, e2]
  by_cases h1 : a < b
  · rw [if_pos h1, if_neg (fun h => (fa_of_lt h1).2.1 h.1)]
  · rw [if_neg h1]
    by_cases h2 : c < a
    · rw [if_pos h2, if_neg (fun h => (fa_of_lt h2).2.1 h.2)]
    · rw [if_neg h2, if_pos ⟨fa_of_nlt h1, fa_of_nlt h2⟩]
theorem in_land {a : Int32} {n : Nat} (hn : n ≤ 1000) : ((0 : Int32) ≤ a ∧ a ≤ nI n - 1) ↔ inB a n = true := by
  simp only [inB, Bool.and_eq_true, decide_eq_true_eq, fa_le]
  have e0 : (0 : Int32).toInt = 0 := rfl
  have e1 : (nI n - 1).toInt = (n : Int) - 1 := pk_sub_toInt (a := n) (b := 1) (by omega) (by decide)
  omega
theorem c_isLand {a : Int32} {n : Nat} {D : Dt} (hn : n ≤ 5) (h : D.1 (5, 0, 0, 0) 3 = nI n) : F_X10_isLand a D = some (if inB a n = true then 1 else 0, D) := by
  rw [F_X10_isLand, h, c_within, cbd_s]
  by_cases c : inB a n = true
  · rw [if_pos ((in_land (by omega)).mpr c), if_pos c, grd_t (Or.inr rfl)]
  · rw [if_neg (fun g => c ((in_land (by omega)).mp g)), if_neg c, grd_t (Or.inl rfl)]
theorem r_isLand {a : Int32} {n : Nat} {D : Dt} (hn : n ≤ 5) (h : D.1 (11, 0, 2, 0) 2 = nI n) : F_X11_isLand a D = some (if inB a n = true then 1 else 0, D) := by
  have e0 : (0 : Int64) = (0 : Int32).toInt64 := by decide
  rw [F_X11_isLand, h, e0, r_in, cbd_s]
  by_cases c : inB a n = true
  · rw [if_pos ((in_land (by omega)).mpr c), if_pos c, grd_t (Or.inr rfl)]
  · rw [if_neg (fun g => c ((in_land (by omega)).mp g)), if_neg c, grd_t (Or.inl rfl)]
theorem if1 {c : Prop} [Decidable c] : ((if c then (1 : Int32) else 0) = 0) = ¬ c := by
  by_cases h : c <;> simp [h]
theorem c_areTwo {a b : Int32} {n : Nat} {D : Dt} (hn : n ≤ 5) (h : D.1 (5, 0, 0, 0) 3 = nI n) : F_X10_areTwo a b D = some (if (inB a n = true ∧ inB b n = true) ∧ a ≠ b then 1 else 0, D) := by
  rw [F_X10_areTwo, c_isLand hn h, cbd_s]
  simp only [if1]
  by_cases c1 : inB a n = true
  · rw [if_neg (fun x => x c1), c_isLand hn h, cbd_s]
    simp only [if1]
    by_cases c2 : inB b n = true
    · rw [if_neg (fun x => x c2)]
      by_cases c3 : a = b
      · rw [if_pos c3, if_neg (fun x => x.2 c3)]
      · rw [if_neg c3, if_pos ⟨⟨c1, c2⟩, c3⟩]
    · rw [if_pos c2, if_neg (fun x => c2 x.1.2)]
  · rw [if_pos c1, if_neg (fun x => c1 x.1.1)]
theorem r_isTable {D : Dt} : F_X11_isTable D = some (if 0 < D.1 (11, 0, 2, 0) 0 then 1 else 0, D) := by
  rw [F_X11_isTable]
  by_cases c : D.1 (11, 0, 2, 0) 0 ≤ 0
  · rw [if_pos c, if_neg (fun g => (fa_of_lt g).2.1 c)]
  · rw [if_neg c, if_pos (fa_of_nle c)]
/-! what RC and RM say of the WORLD -/
theorem RC.n {D : Dt} {A : Al} (h : RC D A) : D.1 (5, 0, 0, 0) 3 = nI (shN (woH (alW A))) := h.1.1.2.2.2.1
theorem RM.n {D : Dt} {A : Al} (h : RM D A) : D.1 (11, 0, 2, 0) 2 = nI (shN (woH (alW A))) := h.1.2.2.1
theorem RC.s {D : Dt} {A : Al} (h : RC D A) : rdS D 0 = woS (alW A) := h.1.2.1
theorem RM.s {D : Dt} {A : Al} (h : RM D A) : rdM D = woS (alW A) := by rw [← lvR_rd]; exact h.1.2.2.2.1
theorem pushW_S {W : Wo} : woS (pushW W) = woS W := rfl
theorem pushW_H {W : Wo} : woH (pushW W) = woH W := rfl
theorem lvR_00 {D : Dt} {k : Nat} : lvR D 0 k = D.1 (11, 0, 2, 0) k := rfl
theorem RW.setSt {D D' : Dt} {W : Wo} {s : St} (r : RW (lvR D) W) (hs : Sm stM D D') (h : rdM D' = s) : RW (lvR D') (setS W s) := by
  refine RW.st r (fun q k hq => ?_) (fun k hk => ?_) (by rw [lvR_rd]; exact h)
  · have a1 : ¬ q = 0 := by omega
    have a2 : ¬ q ≤ 5 := by omega
    simp only [lvR, a1, a2, if_false]
    by_cases c6 : q = 6
    · rw [if_pos c6, if_pos c6, hs.i (by simp [stM])]
    · rw [if_neg c6, if_neg c6]
      by_cases c13 : q ≤ 13
      · rw [if_pos c13, if_pos c13, hs.i (by simp [stM]; omega)]
      · rw [if_neg c13, if_neg c13, hs.i (by simp [stM])]
  · rw [lvR_00, lvR_00, hs.i (by simp [stM]; omega)]
theorem stM_kp {D D' : Dt} (hs : Sm stM D D') : ∀ la k, kpM la k = true → D'.1 la k = D.1 la k := by
  intro la k e
  refine hs.i ?_
  simp only [kpM, stM, Bool.and_eq_true, Bool.or_eq_true, beq_iff_eq, decide_eq_true_eq, Bool.and_eq_false_iff, Bool.or_eq_false_iff, decide_eq_false_iff_not, beq_eq_false_iff_ne] at e ⊢
  omega
theorem kaS_kp {D D' : Dt} (hs : Sm kaS D D') : ∀ la k, kpM la k = true → D'.1 la k = D.1 la k := by
  intro la k e
  refine hs.i ?_
  simp only [kpM, Bool.and_eq_true, Bool.or_eq_true, beq_iff_eq, decide_eq_true_eq] at e
  simp only [kaS, Bool.or_eq_false_iff, Bool.and_eq_false_iff, beq_eq_false_iff_ne]
  obtain ⟨e1, e2⟩ := e
  refine ⟨fun x => ?_, ?_⟩
  · rw [x] at e2
    simp at e2
  · by_cases c : la = (11, 0, 0, 0)
    · right
      rw [c] at e2
      simp at e2
      omega
    · exact Or.inl c
theorem stM_m {D D' : Dt} (hs : Sm stM D D') : Sm mS D D' := hs.mono (fun la k e => by
  simp only [mS, beq_eq_false_iff_ne] at e
  simp [stM, e])
theorem kaS_m {D D' : Dt} (hs : Sm kaS D D') : Sm mS D D' := hs.mono (fun la k e => by
  simp only [mS, beq_eq_false_iff_ne] at e
  simp only [kaS, Bool.or_eq_false_iff, Bool.and_eq_false_iff, beq_eq_false_iff_ne]
  exact ⟨fun x => e (by rw [x]), Or.inl (fun x => e (by rw [x]))⟩)
theorem st0_W {D D' : Dt} (h : Sm (stS 0) D D') : Sm cW D D' := cW_of h (fun la k e => by
  simp only [cW, wcl, stS, Bool.or_eq_false_iff, Bool.and_eq_false_iff, decide_eq_false_iff_not, beq_eq_false_iff_ne] at e ⊢
  omega)
theorem pc0_W {D D' : Dt} (h : Sm (pcS 0) D D') : Sm cW D D' := cW_of h (fun la k e => by
  simp only [cW, wcl, pcS, Bool.or_eq_false_iff, Bool.and_eq_false_iff, decide_eq_false_iff_not, beq_eq_false_iff_ne] at e ⊢
  omega)
