theorem p_note (a b v : Int32) : Cal (F_X10_note a b v) (F_X11_note a b v) := by
  refine cal_of (fun A hA => ?_)
  have hn := hA.1.1
  by_cases c0 : a = -1
  · refine ⟨0, (noW (alW A) 0 (fun _ => 0) (fun _ => 0) (fun _ => 0), A.2), hA.setW (hA.1.note (fun j hj => absurd hj (by omega))), fun D h => ?_, fun D h => ?_⟩
    · have s := n9_W (D := D) (D' := setI D (9, 0, 0, 0) 6 0) (Sm.sI (by simp))
      refine ⟨setI D (9, 0, 0, 0) 6 0, by rw [F_X10_note, if_pos c0, bnd_e], h.setW s.1 (h.1.note s.2 (by decide) (by rw [gI_s]; rfl) ⟨by rw [gI, if_neg (by simp)], by rw [gI, if_neg (by simp)]⟩ (fun j hj => absurd hj (by omega))), cW_c s.1⟩
    · have s : Sm noS D (setI D (11, 0, 2, 0) 6 0) := Sm.sI (by simp [noS])
      refine ⟨setI D (11, 0, 2, 0) 6 0, by rw [F_X11_note, if_pos c0, bnd_e], h.setW (noS_kp s) (h.1.note (noS_lv s) (by decide) (by rw [lvR_00, gI_s]; rfl) (fun j hj => absurd hj (by omega))), noS_m s⟩
  · by_cases c1 : (0 : Int32) ≤ a ∧ a ≤ 60
    · by_cases c2 : inB b (shN (woH (alW A))) = true
      · by_cases c3 : b = v
        · refine cal_no hA (-2) (fun D h => ?_) (fun D h => ?_)
          · rw [F_X10_note, if_neg c0, c_within, cbd_s, i1t c1, c_isLand hn h.n, cbd_s, i1t c2, if_pos c3]
          · have k57 : ∀ w E, F_X11_note_b57 a b v a b v w E = some (-2, E) := fun w E => by rw [F_X11_note_b57, if_pos c3]
            rw [F_X11_note, if_neg c0, bnd_e, r_in_0_60, cbd_s, i1t c1, r_isLand hn h.n, cbd_s, i1t c2, k57, r_isLand hn h.n, cbd_s, k57]
            by_cases g : v = -1
            · rw [if_pos g]
            · rw [if_neg g]
              split <;> rfl
        · by_cases c4 : v = -1 ∨ inB v (shN (woH (alW A))) = true
          · have kc : ∀ D, RC D A → F_X10_note a b v D = F_X10_note_b57 a b v a b v D := by
              intro D h
              rw [F_X10_note, if_neg c0, c_within, cbd_s, i1t c1, c_isLand hn h.n, cbd_s, i1t c2, if_neg c3]
              by_cases g : v = -1
              · rw [if_pos g]
              · rw [if_neg g, c_isLand hn h.n, cbd_s, i1t (c4.resolve_left g)]
            have km : ∀ D, RM D A → F_X11_note a b v D = F_X11_note_b57 a b v a b v (nI (woN (alW A))) D := by
              intro D h
              have h5 := h.1.2.2.2.2.1
              rw [F_X11_note, if_neg c0, bnd_e, r_in_0_60, cbd_s, i1t c1, r_isLand hn h.n, cbd_s, i1t c2, show D.1 (11, 0, 2, 0) 6 = _ from h5]
              by_cases g : v = -1
              · rw [if_pos g]
              · rw [if_neg g, r_isLand hn h.n, cbd_s, i1t (c4.resolve_left g)]
            by_cases c5 : woN (alW A) < 10
            · obtain ⟨x, hx, ex⟩ := inB_ex c2 (by omega)
              obtain ⟨y, hy, ey⟩ := nI_of2 (x := a) (M := 60) (n := 60) rfl (fun g => (fa_of_lt g).2.1 c1.1) c1.2
              refine ⟨nI (woN (alW A) + 1), (noW (alW A) (woN (alW A) + 1) (fun j => if j = woN (alW A) then a else woNw (alW A) j) (fun j => if j = woN (alW A) then b else woNl (alW A) j) (fun j => if j = woN (alW A) then v else woNf (alW A) j), A.2), hA.setW (hA.1.note (fun j hj => ?_)), fun D h => ?_, fun D h => ?_⟩
              · by_cases g : j = woN (alW A)
                · rw [if_pos g, if_pos g]
                  exact ⟨⟨y, hy, ey⟩, x, hx, ex⟩
                · rw [if_neg g, if_neg g]
                  exact hA.1.2.2.2.2.2.2.2.2.1 j (by omega)
              · have h7 := h.1.2.2.2.2.2.2.1
                have h8 := h.1.2.2.2.2.2.2.2.1
                rw [kc D h, F_X10_note_b57, F_X9_addNote, grd_t (V9 (by decide)), h7, if_pos (show nI (woN (alW A)) < (10 : Int32) from nI_lt (b := 10) c5 (by decide)), grd_t (inBe c5 (by decide)), nIc (by omega), bnd_e, gI, if_neg (by simp), h7, grd_t (inBe c5 (by decide)), nIc (by omega), bnd_e, gI, if_neg (by simp), gI, if_neg (by simp), h7, grd_t (inBe c5 (by decide)), nIc (by omega), bnd_e, bnd_e, gI, if_neg (by simp), gI, if_neg (by simp), gI, if_neg (by simp), h7, nI_1, cbd_s, if_neg (by decide), gI_s]
                have s := n9_W (D := D) (D' := setI (setI (setI (setI D (9, 0, 4, 0) (woN (alW A)) a) (9, 0, 5, 0) (woN (alW A)) b) (9, 0, 6, 0) (woN (alW A)) v) (9, 0, 0, 0) 6 (nI (woN (alW A) + 1))) ((((Sm.sI (by simp)).trans (Sm.sI (by simp))).trans (Sm.sI (by simp))).trans (Sm.sI (by simp)))
                refine ⟨_, rfl, h.setW s.1 (h.1.note s.2 (by omega) gI_s ⟨by simp [gI], by simp [gI]⟩ (fun j hj => ?_)), cW_c s.1⟩
                by_cases g : j = woN (alW A)
                · simp [gI, g]
                · have := h8 j (by omega)
                  simp [gI, g, this]
              · have h13 := h.1.2.2.2.2.2.2.2.2.2.2.2.2.1
                have h5 : D.1 (11, 0, 2, 0) 6 = nI (woN (alW A)) := h.1.2.2.2.2.1
                have n10 : ¬ nI (woN (alW A)) = (10 : Int32) := fun e => by have := (nI_eq (a := woN (alW A)) (b := 10) (by omega) (by decide)).mp e; omega
                rw [km D h, F_X11_note_b57, if_neg c3, if_neg n10, grd_t (inBe c5 (by decide)), nIc (by omega), bnd_e, bnd_e, bnd_e, bnd_e, gI, if_neg (by simp), gI, if_neg (by simp), gI, if_neg (by simp), h5, nI_1]
                have s : Sm noS D (setI (setI (setI (setI D (11, 0, 9, 0) (woN (alW A)) a) (11, 0, 10, 0) (woN (alW A)) b) (11, 0, 11, 0) (woN (alW A)) v) (11, 0, 2, 0) 6 (nI (woN (alW A) + 1))) := (((Sm.sI (by simp [noS])).trans (Sm.sI (by simp [noS]))).trans (Sm.sI (by simp [noS]))).trans (Sm.sI (by simp [noS]))
                refine ⟨_, rfl, h.setW (noS_kp s) (h.1.note (noS_lv s) (by omega) (by rw [lvR_00, gI_s]) (fun j hj => ?_)), noS_m s⟩
                show (setI _ _ _ _).1 (11, 0, 9, 0) j = _ ∧ (setI _ _ _ _).1 (11, 0, 10, 0) j = _ ∧ (setI _ _ _ _).1 (11, 0, 11, 0) j = _
                by_cases g : j = woN (alW A)
                · simp [gI, g]
                · have := h13 j (by omega)
                  have t1 : D.1 (11, 0, 9, 0) j = _ := this.1
                  have t2 : D.1 (11, 0, 10, 0) j = _ := this.2.1
                  have t3 : D.1 (11, 0, 11, 0) j = _ := this.2.2
                  simp [gI, g, t1, t2, t3]
            · refine cal_no hA (-2) (fun D h => ?_) (fun D h => ?_)
              · have h7 := h.1.2.2.2.2.2.2.1
                have h10 := h.1.2.2.2.2.2.1
                rw [kc D h, F_X10_note_b57, F_X9_addNote, grd_t (V9 (by decide)), h7, if_neg (show ¬ nI (woN (alW A)) < (10 : Int32) from nI_nlt (b := 10) (by omega) (by omega)), cbd_s, if_pos rfl]
              · have h12 := h.1.2.2.2.2.2.2.2.2.2.2.2.1
                rw [km D h, F_X11_note_b57, if_neg c3, show woN (alW A) = 10 by omega, if_pos (show nI 10 = (10 : Int32) from rfl)]
          · have g : ¬ v = -1 := fun e => c4 (Or.inl e)
            refine cal_no hA (-2) (fun D h => ?_) (fun D h => ?_)
            · rw [F_X10_note, if_neg c0, c_within, cbd_s, i1t c1, c_isLand hn h.n, cbd_s, i1t c2, if_neg c3, if_neg g, c_isLand hn h.n, cbd_s, i1f (fun e => c4 (Or.inr e))]
            · rw [F_X11_note, if_neg c0, bnd_e, r_in_0_60, cbd_s, i1t c1, r_isLand hn h.n, cbd_s, i1t c2, if_neg g, r_isLand hn h.n, cbd_s, i1f (fun e => c4 (Or.inr e))]
      · refine cal_no hA (-2) (fun D h => ?_) (fun D h => ?_)
        · rw [F_X10_note, if_neg c0, c_within, cbd_s, i1t c1, c_isLand hn h.n, cbd_s, i1f c2]
        · rw [F_X11_note, if_neg c0, bnd_e, r_in_0_60, cbd_s, i1t c1, r_isLand hn h.n, cbd_s, i1f c2]
    · refine cal_no hA (-2) (fun D h => ?_) (fun D h => ?_)
      · rw [F_X10_note, if_neg c0, c_within, cbd_s, i1f c1]
      · rw [F_X11_note, if_neg c0, bnd_e, r_in_0_60, cbd_s, i1f c1]
/-! parts -/
def ptS (m all lost k : Nat) (b : Nat → Nat) : Nat → Int32 × Int32
  | 0 => (nI m, 0)
  | i + 1 => ((ptS m all lost k b i).1 - nI (m * b i / all), if lost < m * b i % all ∨ (m * b i % all = lost ∧ i < k) then (ptS m all lost k b i).2 + 1 else (ptS m all lost k b i).2)
theorem ptS_z {m all lost k n : Nat} {b : Nat → Nat} (hk : k < n) : ∀ i, (∀ j, n ≤ j → j < n + i → b j = 0) → ptS m all lost k b (n + i) = ptS m all lost k b n
  | 0, _ => rfl
  | i + 1, h => by
    rw [← Nat.add_assoc, ptS, ptS_z hk i (fun j a c => h j a (by omega)), h (n + i) (by omega) (by omega)]
    rw [Nat.mul_zero, Nat.zero_div, Nat.zero_mod, if_neg (by omega), nI_0, Int32.sub_zero]
theorem c_partLoop {i m all lost k : Nat} {D : Dt} {b : Nat → Nat} {kk : Int32 → Int32 → Int32 → Int32 → Int32 → Dt → Option (Int32 × Dt)} (ha : 0 < all) (hab : all < 100000) (hm : m < 10000) (hb : ∀ j, j < 5 → b j < 10000 ∧ rdS D i 3 j = nI (b j)) (hk : k < 5) (hlost : lost < 100000) : ∀ n fu j, j + n = 5 → n < fu → F_X6_partOf_b36 i (nI m) (nI k) kk fu (nI m) (nI k) (nI all) (ptS m all lost k b j).1 (ptS m all lost k b j).2 (nI lost) (nI j) D = kk (nI m) (nI k) (nI all) (ptS m all lost k b 5).1 (ptS m all lost k b 5).2 D := by
  intro n
  induction n with
  | zero =>
    intro fu j hj hf
    obtain ⟨fu, rfl⟩ : ∃ g, fu = g + 1 := ⟨fu - 1, by omega⟩
    rw [F_X6_partOf_b36, if_pos (show (5 : Int32) ≤ nI j from nI_le (a := 5) (by omega) (by omega)), show j = 5 by omega]
  | succ n ih =>
    intro fu j hj hf
    obtain ⟨fu, rfl⟩ : ∃ g, fu = g + 1 := ⟨fu - 1, by omega⟩
    obtain ⟨b1, b2⟩ := hb j (by omega)
    have hmb : m * b j < 100000000 := by
      have : m * b j ≤ 9999 * 9999 := Nat.mul_le_mul (by omega) (by omega)
      omega
    have hmod : m * b j % all < all := Nat.mod_lt _ ha
    rw [F_X6_partOf_b36, if_neg (show ¬ (5 : Int32) ≤ nI j from nI_ge (b := 5) (by omega) (by decide)), grd_t (inBe (show j < 5 by omega) (by decide)), grd_t (nI_ne0 ha (by omega)), nIc (by omega), s_barn (by omega), b2, pk_mul, pk_rem (by omega) ha (by omega), pk_div (by omega) ha (by omega)]
    simp only [bnd_e, F_X6_partOf_b91, F_X6_partOf_b94, nI_1]
    have := ih fu (j + 1) (by omega) (by omega)
    rw [ptS] at this
    by_cases c1 : lost < m * b j % all
    · rw [if_pos (nI_lt c1 (by omega))]
      rw [if_pos (Or.inl c1)] at this
      exact this
    · rw [if_neg (nI_nlt (by omega) (by omega))]
      by_cases c2 : m * b j % all = lost
      · rw [if_pos (by rw [c2])]
        by_cases c3 : k ≤ j
        · rw [if_pos (nI_le c3 (by omega))]
          rw [if_neg (by omega)] at this
          exact this
        · rw [if_neg (nI_ge (by omega) (by omega))]
          rw [if_pos (Or.inr ⟨c2, by omega⟩)] at this
          exact this
      · rw [if_neg (fun e => c2 ((nI_eq (by omega) (by omega)).mp e))]
        rw [if_neg (by omega)] at this
        exact this
theorem r_partLoop {m all k n : Nat} {D : Dt} {b : Nat → Nat} {kk : Int32 → Int32 → Int32 → Int32 → Int32 → Dt → Option (Int32 × Dt)} (hn : n ≤ 5) (h2 : D.1 (11, 0, 2, 0) 2 = nI n) (ha : 0 < all) (hab : all < 100000) (hm : m < 10000) (hb : ∀ j, j < 5 → b j < 10000 ∧ rdM D 3 j = nI (b j)) (hk : k < 5) : ∀ z fu j, j + z = n → z < fu → F_X11_parts_b46 (nI m) (nI k) kk fu (nI m) (nI k) (nI all) (ptS m all (m * b k % all) k b j).1 (ptS m all (m * b k % all) k b j).2 (nI j) D = kk (nI m) (nI k) (nI all) (ptS m all (m * b k % all) k b n).1 (ptS m all (m * b k % all) k b n).2 D := by
  intro z
  induction z with
  | zero =>
    intro fu j hj hf
    obtain ⟨fu, rfl⟩ : ∃ g, fu = g + 1 := ⟨fu - 1, by omega⟩
    rw [F_X11_parts_b46, h2, if_pos (nI_le (by omega) (by omega)), show j = n by omega]
  | succ z ih =>
    intro fu j hj hf
    obtain ⟨fu, rfl⟩ : ∃ g, fu = g + 1 := ⟨fu - 1, by omega⟩
    obtain ⟨b1, b2⟩ := hb j (by omega)
    obtain ⟨b3, b4⟩ := hb k hk
    have hmb : m * b j < 100000000 := by
      have : m * b j ≤ 9999 * 9999 := Nat.mul_le_mul (by omega) (by omega)
      omega
    have hmk : m * b k < 100000000 := by
      have : m * b k ≤ 9999 * 9999 := Nat.mul_le_mul (by omega) (by omega)
      omega
    have hmod : m * b j % all < all := Nat.mod_lt _ ha
    have hmod2 : m * b k % all < all := Nat.mod_lt _ ha
    rw [F_X11_parts_b46, h2, if_neg (nI_ge (by omega) (by omega)), grd_t (inBe (show j < 5 by omega) (by decide)), grd_t (nI_ne0 ha (by omega)), bnd_e, grd_t (inBe hk (by decide)), nIc (k := j) (by omega), nIc (k := k) (by omega), m_barn (by omega), m_barn hk, b2, b4, pk_mul, pk_mul, pk_rem (a := m * b j) (by omega) ha (by omega), pk_rem (by omega) ha (by omega), pk_div (by omega) ha (by omega)]
    simp only [bnd_e, F_X11_parts_b115, F_X11_parts_b119, F_X11_parts_b120, nI_1]
    have := ih fu (j + 1) (by omega) (by omega)
    rw [ptS] at this
    have hd := pk_sub_toInt (a := m * b j % all) (b := m * b k % all) (by omega) (by omega)
    have z0 : (0 : Int32).toInt = 0 := rfl
    have d1 : (0 : Int32) < nI (m * b j % all) - nI (m * b k % all) ↔ m * b k % all < m * b j % all := by
      rw [fa_lt, hd, z0]
      omega
    have d2 : nI (m * b j % all) - nI (m * b k % all) = 0 ↔ m * b j % all = m * b k % all := by
      rw [fa_eq, hd, z0]
      omega
    have a0 : ∀ x : Int32, x + 0 = x := Int32.add_zero
    by_cases c1 : m * b k % all < m * b j % all
    · rw [if_pos (d1.mpr c1)]
      rw [if_pos (Or.inl c1)] at this
      exact this
    · rw [if_neg (fun e => c1 (d1.mp e))]
      by_cases c2 : m * b j % all = m * b k % all
      · rw [if_pos (d2.mpr c2)]
        by_cases c3 : k ≤ j
        · rw [if_pos (nI_le c3 (by omega)), a0]
          rw [if_neg (by omega)] at this
          exact this
        · rw [if_neg (nI_ge (by omega) (by omega))]
          rw [if_pos (Or.inr ⟨c2, by omega⟩)] at this
          exact this
      · rw [if_neg (fun e => c2 (d2.mp e)), a0]
        rw [if_neg (by omega)] at this
        exact this
theorem sumN_nat {f : Nat → Int32} {b : Nat → Nat} : ∀ n, (∀ k, k < n → f k = nI (b k)) → sumN f n = nI (fb_sm b n)
  | 0, _ => rfl
  | n + 1, h => by rw [sumN, sumN_nat n (fun k hk => h k (by omega)), h n (by omega), nI_add]; rfl
theorem p_parts (a b : Int32) : Cal (F_X10_parts a b) (F_X11_parts a b) := by
  refine cal_of (fun A hA => ?_)
  have hn := hA.1.1
  have hgd := hA.1.2.2.2.2.2.2.1.1
  by_cases c1 : inB b (shN (woH (alW A))) = true
  · obtain ⟨k, hk, rfl⟩ := inB_ex c1 (by omega)
    by_cases c2 : (0 : Int32) ≤ a ∧ a ≤ 9999
    · obtain ⟨m, hm, rfl⟩ := nI_of2 (x := a) (M := 9999) (n := 9999) rfl (fun g => (fa_of_lt g).2.1 c2.1) c2.2
      have hbx : ∀ j, ∃ x : Nat, x < 10000 ∧ woS (alW A) 3 j = nI x := fun j => by
        obtain ⟨x, h1, h2⟩ := bw_nat (hgd.1 j).2.2.2
        exact ⟨x, by omega, h2⟩
      let bf : Nat → Nat := fun j => (woS (alW A) 3 j).toNatClampNeg
      have hbf : ∀ j, bf j < 10000 ∧ woS (alW A) 3 j = nI (bf j) := fun j => by
        obtain ⟨x, h1, h2⟩ := hbx j
        have : bf j = x := by show (woS (alW A) 3 j).toNatClampNeg = x; rw [h2, nIc (by omega)]
        rw [this]
        exact ⟨h1, h2⟩
      generalize bf = bb at hbf
      have hsum : totS (woS (alW A)) 3 = nI (fb_sm bb 5) := sumN_nat 5 (fun j _ => (hbf j).2)
      have hall : fb_sm bb 5 < 100000 := by
        have := fb_sm_bound (f := bb) (c := 9999) (n := 5) (fun j _ => by have := (hbf j).1; omega)
        omega
      generalize fb_sm bb 5 = all at hsum hall
      by_cases c3 : 0 < all
      · have hpt : ptS m all (m * bb k % all) k bb 5 = ptS m all (m * bb k % all) k bb (shN (woH (alW A))) := by
          have := ptS_z (m := m) (all := all) (lost := m * bb k % all) (b := bb) hk (5 - shN (woH (alW A))) (fun j h1 h2 => by
            have e1 := (hbf j).2
            rw [(hgd.2.1 j h1).2.2.2] at e1
            exact ((nI_eq (a := 0) (b := bb j) (by decide) (by have := (hbf j).1; omega)).mp e1).symm)
          rw [show shN (woH (alW A)) + (5 - shN (woH (alW A))) = 5 by omega] at this
          exact this
        have hmk : m * bb k < 100000000 := by
          have : m * bb k ≤ 9999 * 9999 := Nat.mul_le_mul (by omega) (by have := (hbf k).1; omega)
          omega
        refine cal_no hA (if (ptS m all (m * bb k % all) k bb 5).1 ≤ (ptS m all (m * bb k % all) k bb 5).2 then nI (m * bb k / all) + 0 else nI (m * bb k / all) + 1) (fun D h => ?_) (fun D h => ?_)
        · rw [F_X10_parts, c_isLand hn h.n, cbd_s, i1t c1, c_within, cbd_s, i1t c2, F_X6_partOf, grd_t vv0, show F_X10_total (6, 0, 4, 0) D = _ from c_totS 3 vv0 (by decide), cbd_s, h.s, hsum, if_pos (show (1 : Int32) ≤ nI all from nI_le (a := 1) c3 (by omega)), grd_t (inBe (by omega) (by decide)), grd_t (nI_ne0 c3 (by omega)), nIc (by omega), s_barn (by omega), h.s, (hbf k).2, pk_mul, pk_rem (by omega) c3 (by omega), bnd_e]
          have := c_partLoop (i := 0) (m := m) (all := all) (lost := m * bb k % all) (k := k) (D := D) (b := bb) (kk := fun l1_58 l2_59 l3_60 l4_61 l5_62 D63 => (grd (inB l2_59 5 = true) (grd (¬ l3_60 = 0) (if l4_61 ≤ l5_62 then (some ((((l1_58 * (D63.1 (6, 0, 4, 0) (l2_59.toNatClampNeg))) / l3_60) + (0 : Int32)), D63)) else (some ((((l1_58 * (D63.1 (6, 0, 4, 0) (l2_59.toNatClampNeg))) / l3_60) + (1 : Int32)), D63)))))) c3 hall (by omega) (fun j _ => ⟨(hbf j).1, by rw [h.s]; exact (hbf j).2⟩) (by omega) (by have := Nat.mod_lt (m * bb k) c3; omega) 5 2000 0 (by omega) (by omega)
          rw [show F_X6_partOf_b36 0 (nI m) (nI k) _ 2000 (nI m) (nI k) (nI all) (nI m) 0 _ 0 D = _ from this, grd_t (inBe (by omega) (by decide)), grd_t (nI_ne0 c3 (by omega)), nIc (by omega), s_barn (by omega), h.s, (hbf k).2, pk_mul, pk_div (by omega) c3 (by omega)]
          simp only [if_so, cbd_s]
        · rw [F_X11_parts, r_isLand hn h.n, cbd_s, i1t c1, r_in_0_9999, cbd_s, i1t c2, show F_X11_allOf (11, 0, 6, 0) D = _ from r_totS 3 (by decide) hn h.n (by rw [h.s]; exact hgd), cbd_s, h.s, hsum, if_neg (nI_ne0 c3 (by omega))]
          have := r_partLoop (m := m) (all := all) (k := k) (D := D) (b := bb) (kk := fun l1_66 l2_67 l3_68 l4_69 l5_70 D71 => (grd (inB l2_67 5 = true) (grd (¬ l3_68 = 0) (if l4_69 ≤ l5_70 then (some ((((l1_66 * (D71.1 (11, 0, 6, 0) (l2_67.toNatClampNeg))) / l3_68) + (0 : Int32)), D71)) else (some ((((l1_66 * (D71.1 (11, 0, 6, 0) (l2_67.toNatClampNeg))) / l3_68) + (1 : Int32)), D71)))))) hn h.n c3 hall (by omega) (fun j _ => ⟨(hbf j).1, by rw [h.s]; exact (hbf j).2⟩) (by omega) (shN (woH (alW A))) 2000 0 (by omega) (by omega)
          rw [show F_X11_parts_b46 (nI m) (nI k) _ 2000 (nI m) (nI k) (nI all) (nI m) 0 0 D = _ from this, grd_t (inBe (by omega) (by decide)), grd_t (nI_ne0 c3 (by omega)), nIc (by omega), m_barn (by omega), h.s, (hbf k).2, pk_mul, pk_div (by omega) c3 (by omega), ← hpt]
          simp only [if_so]
      · have h0 : all = 0 := by omega
        subst h0
        refine cal_no hA 0 (fun D h => ?_) (fun D h => ?_)
        · rw [F_X10_parts, c_isLand hn h.n, cbd_s, i1t c1, c_within, cbd_s, i1t c2, F_X6_partOf, grd_t vv0, show F_X10_total (6, 0, 4, 0) D = _ from c_totS 3 vv0 (by decide), cbd_s, h.s, hsum, if_neg (show ¬ (1 : Int32) ≤ nI 0 by decide), cbd_s]
        · rw [F_X11_parts, r_isLand hn h.n, cbd_s, i1t c1, r_in_0_9999, cbd_s, i1t c2, show F_X11_allOf (11, 0, 6, 0) D = _ from r_totS 3 (by decide) hn h.n (by rw [h.s]; exact hgd), cbd_s, h.s, hsum, if_pos nI_0]
    · refine cal_no hA (-1) (fun D h => ?_) (fun D h => ?_)
      · rw [F_X10_parts, c_isLand hn h.n, cbd_s, i1t c1, c_within, cbd_s, i1f c2]
      · rw [F_X11_parts, r_isLand hn h.n, cbd_s, i1t c1, r_in_0_9999, cbd_s, i1f c2]
  · refine cal_no hA (-1) (fun D h => ?_) (fun D h => ?_)
    · rw [F_X10_parts, c_isLand hn h.n, cbd_s, i1f c1]
    · rw [F_X11_parts, r_isLand hn h.n, cbd_s, i1f c1]
