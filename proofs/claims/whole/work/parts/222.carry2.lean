def Bq (z : Nat) (D0 D : Dt) (q : Nat) : Prop := D.2 = D0.2 ∧ D.1 (11, 0, 0, 0) 57 = 1 ∧ D.1 (11, 0, 0, 0) 56 = nI (z + roE q) ∧ (∀ la k, (∀ q', q' < q → la ≠ lvA q') → la ≠ (11, 0, 46, 0) → ¬ (la = (11, 0, 0, 0) ∧ (k = 56 ∨ k = 57 ∨ (k = 46 ∧ 6 < q))) → D.1 la k = D0.1 la k) ∧ (∀ q' k, q' < q → k < roL q' → lvR D q' k = D0.1 (11, 0, 55, 0) (z + (roO q' + k)))
theorem lvA_inj : ∀ q q', q < 15 → q' < 15 → lvA q = lvA q' → q = q' := by
  have : ∀ q, q < 15 → ∀ q', q' < 15 → lvA q = lvA q' → q = q' := by decide
  exact fun q q' h h2 => this q h q' h2
theorem Bq_plain {z : Nat} {D0 D : Dt} (q : Nat) (hz : z + 945 ≤ 5000) (hq : q < 15) (hq6 : q ≠ 6) (h : Bq z D0 D q) : ∃ D', F_X11_carryRow (lvA q) D = some D' ∧ Bq z D0 D' (q + 1) := by
  obtain ⟨h1, h2, h3, h4, h5⟩ := h
  obtain ⟨a1, a2, a3, a4⟩ := lvA_sh q hq
  have hb := roE_b (q + 1) (by omega)
  have hs := roE_s q hq
  have ho := roE_o q hq
  obtain ⟨D', e, g1, g2, g3, g4, g5⟩ := r_carB (z := z + roE q) a1 a2 a3 a4 (by omega) (roL_b q hq) h2 h3
  have n55 : ∀ q', q' < 15 → (11, 0, 55, 0) ≠ lvA q' := fun q' hq' e => (lvA_sh q' hq').2.2.1 e.symm
  have n00 : ∀ q', q' < 15 → (11, 0, 0, 0) ≠ lvA q' := fun q' hq' e => (lvA_sh q' hq').2.2.2 e.symm
  have im : ∀ k, D.1 (11, 0, 55, 0) k = D0.1 (11, 0, 55, 0) k := fun k => h4 _ _ (fun q' hq' => n55 q' (by omega)) (by simp) (by simp)
  refine ⟨D', e, g1.trans h1, ?_, ?_, ?_, ?_⟩
  · rw [g3 _ _ (n00 q hq) (by simp), h2]
  · rw [g2, hs, Nat.add_assoc]
  · intro la k c1 c2 c3
    have c3' : ¬ (la = (11, 0, 0, 0) ∧ (k = 56 ∨ k = 57 ∨ (k = 46 ∧ 6 < q))) := fun h => c3 ⟨h.1, by omega⟩
    rw [g3 la k (c1 q (by omega)) (fun h => c3 ⟨h.1, Or.inl h.2⟩), h4 la k (fun q' hq' => c1 q' (by omega)) c2 c3']
  · intro q' k hq' hk
    by_cases c : q' = q
    · subst c
      rw [← lvA_lv q' hq hq6, g4 k hk, im, show z + roE q' + k = z + (roO q' + k) by omega]
    · rw [← h5 q' k (by omega) hk]
      by_cases c6 : q' = 6
      · subst c6
        show D'.1 (11, 0, 0, 0) 46 = D.1 (11, 0, 0, 0) 46
        exact g3 _ _ (n00 q hq) (by simp)
      · rw [← lvA_lv q' (by omega) c6, ← lvA_lv q' (by omega) c6]
        exact g3 _ _ (fun e => c (lvA_inj _ _ (by omega) hq e)) (fun e => (lvA_sh q' (by omega)).2.2.2 e.1)
theorem bnd_ei {a : Dt} {k : Dt → Option Dt} : bnd a k = k a := rfl
theorem r_keepF {z i : Nat} {D : Dt} (hi : z = 1000 * i) (hi4 : i ≤ 4) : ∃ D', Fq' z D D' 6 ∧ ∀ kk : Dt → Option Dt, (bnd (setI D (11, 0, 0, 0) 56 ((1000 : Int32) * nI i)) (fun D1 => (grd ((0 : Int32) = 0 ∨ (0 : Int32) = 1) (bnd (setI D1 (11, 0, 0, 0) 57 (0 : Int32)) (fun D3 => (vbd (F_X11_carryRow (11, 0, 2, 0) D3) (fun D5 => (vbd (F_X11_carryRow (11, 0, 3, 0) D5) (fun D7 => (vbd (F_X11_carryRow (11, 0, 4, 0) D7) (fun D9 => (vbd (F_X11_carryRow (11, 0, 5, 0) D9) (fun D11 => (vbd (F_X11_carryRow (11, 0, 6, 0) D11) (fun D13 => (vbd (F_X11_carryRow (11, 0, 7, 0) D13) (fun D15 => kk D15))))))))))))))))) = kk D' := by
  have hx : (1000 : Int32) * nI i = nI z := by rw [show (1000 : Int32) = nI 1000 from rfl, pk_mul, hi]
  have f0 : Fq' z D (setI (setI D (11, 0, 0, 0) 56 (nI z)) (11, 0, 0, 0) 57 0) 0 := by
    refine ⟨rfl, by rw [gI, if_pos ⟨rfl, rfl⟩], by rw [gI, if_neg (by simp), gI, if_pos ⟨rfl, rfl⟩]; rfl, ?_, fun q' k h => absurd h (by omega), ?_⟩
    · intro la k c1 c2 c3
      rw [gI, if_neg (fun h => c3 ⟨h.1, Or.inr h.2⟩), gI, if_neg (fun h => c3 ⟨h.1, Or.inl h.2⟩)]
    · intro k _
      rw [gI, if_neg (by simp), gI, if_neg (by simp)]
  have hz : z + 945 ≤ 5000 := by omega
  obtain ⟨D1, e1, f1⟩ := Fq_plain 0 hz (by decide) (by decide) f0
  obtain ⟨D2, e2, f2⟩ := Fq_plain 1 hz (by decide) (by decide) f1
  obtain ⟨D3, e3, f3⟩ := Fq_plain 2 hz (by decide) (by decide) f2
  obtain ⟨D4, e4, f4⟩ := Fq_plain 3 hz (by decide) (by decide) f3
  obtain ⟨D5, e5, f5⟩ := Fq_plain 4 hz (by decide) (by decide) f4
  obtain ⟨D6, e6, f6⟩ := Fq_plain 5 hz (by decide) (by decide) f5
  refine ⟨D6, f6, fun kk => ?_⟩
  rw [hx, bnd_ei, grd_t (Or.inl rfl), bnd_ei, show F_X11_carryRow (11, 0, 2, 0) _ = _ from e1, vbd_s, show F_X11_carryRow (11, 0, 3, 0) _ = _ from e2, vbd_s, show F_X11_carryRow (11, 0, 4, 0) _ = _ from e3, vbd_s, show F_X11_carryRow (11, 0, 5, 0) _ = _ from e4, vbd_s, show F_X11_carryRow (11, 0, 6, 0) _ = _ from e5, vbd_s, show F_X11_carryRow (11, 0, 7, 0) _ = _ from e6, vbd_s]
theorem r_keepB {z i : Nat} {D : Dt} (hi : z = 1000 * i) (hi4 : i ≤ 4) : ∃ D', Bq z D D' 6 ∧ ∀ kk : Dt → Option Dt, (bnd (setI D (11, 0, 0, 0) 56 ((1000 : Int32) * nI i)) (fun D1 => (grd ((1 : Int32) = 0 ∨ (1 : Int32) = 1) (bnd (setI D1 (11, 0, 0, 0) 57 (1 : Int32)) (fun D3 => (vbd (F_X11_carryRow (11, 0, 2, 0) D3) (fun D5 => (vbd (F_X11_carryRow (11, 0, 3, 0) D5) (fun D7 => (vbd (F_X11_carryRow (11, 0, 4, 0) D7) (fun D9 => (vbd (F_X11_carryRow (11, 0, 5, 0) D9) (fun D11 => (vbd (F_X11_carryRow (11, 0, 6, 0) D11) (fun D13 => (vbd (F_X11_carryRow (11, 0, 7, 0) D13) (fun D15 => kk D15))))))))))))))))) = kk D' := by
  have hx : (1000 : Int32) * nI i = nI z := by rw [show (1000 : Int32) = nI 1000 from rfl, pk_mul, hi]
  have f0 : Bq z D (setI (setI D (11, 0, 0, 0) 56 (nI z)) (11, 0, 0, 0) 57 1) 0 := by
    refine ⟨rfl, by rw [gI, if_pos ⟨rfl, rfl⟩], by rw [gI, if_neg (by simp), gI, if_pos ⟨rfl, rfl⟩]; rfl, ?_, fun q' k h => absurd h (by omega)⟩
    intro la k c1 c2 c3
    rw [gI, if_neg (fun h => c3 ⟨h.1, Or.inr (Or.inl h.2)⟩), gI, if_neg (fun h => c3 ⟨h.1, Or.inl h.2⟩)]
  have hz : z + 945 ≤ 5000 := by omega
  obtain ⟨D1, e1, f1⟩ := Bq_plain 0 hz (by decide) (by decide) f0
  obtain ⟨D2, e2, f2⟩ := Bq_plain 1 hz (by decide) (by decide) f1
  obtain ⟨D3, e3, f3⟩ := Bq_plain 2 hz (by decide) (by decide) f2
  obtain ⟨D4, e4, f4⟩ := Bq_plain 3 hz (by decide) (by decide) f3
  obtain ⟨D5, e5, f5⟩ := Bq_plain 4 hz (by decide) (by decide) f4
  obtain ⟨D6, e6, f6⟩ := Bq_plain 5 hz (by decide) (by decide) f5
  refine ⟨D6, f6, fun kk => ?_⟩
  rw [hx, bnd_ei, grd_t (Or.inr rfl), bnd_ei, show F_X11_carryRow (11, 0, 2, 0) _ = _ from e1, vbd_s, show F_X11_carryRow (11, 0, 3, 0) _ = _ from e2, vbd_s, show F_X11_carryRow (11, 0, 4, 0) _ = _ from e3, vbd_s, show F_X11_carryRow (11, 0, 5, 0) _ = _ from e4, vbd_s, show F_X11_carryRow (11, 0, 6, 0) _ = _ from e5, vbd_s, show F_X11_carryRow (11, 0, 7, 0) _ = _ from e6, vbd_s]
theorem r_carry4F {D : Dt} : ∃ D', F_X11_carriesAll 4 0 D = some D' ∧ Fq' 4000 D D' 6 := by
  obtain ⟨D', f, e⟩ := r_keepF (z := 4000) (i := 4) (D := D) rfl (by decide)
  exact ⟨D', e _, f⟩
theorem r_carry4B {D : Dt} : ∃ D', F_X11_carriesAll 4 1 D = some D' ∧ Bq 4000 D D' 6 := by
  obtain ⟨D', f, e⟩ := r_keepB (z := 4000) (i := 4) (D := D) rfl (by decide)
  exact ⟨D', e _, f⟩
theorem Fq_six {z : Nat} {D0 D : Dt} (hz : z + 945 ≤ 5000) (h : Fq' z D0 D 6) : ∃ D', F_X11_carryRow (11, 0, 46, 0) (setI D (11, 0, 46, 0) 0 (D.1 (11, 0, 0, 0) 46)) = some D' ∧ Fq' z D0 (setI D' (11, 0, 0, 0) 46 (D'.1 (11, 0, 46, 0) 0)) 7 := by
  have h46 : D.1 (11, 0, 0, 0) 46 = D0.1 (11, 0, 0, 0) 46 := h.2.2.2.1 _ _ (by simp) (by simp) (by simp)
  have f : Fq' z D0 (setI D (11, 0, 46, 0) 0 (D.1 (11, 0, 0, 0) 46)) 6 := by
    obtain ⟨h1, h2, h3, h4, h5, h6⟩ := h
    refine ⟨h1, ?_, ?_, ?_, ?_, ?_⟩
    · rw [gI, if_neg (by simp), h2]
    · rw [gI, if_neg (by simp), h3]
    · intro la k c1 c2 c3
      rw [gI, if_neg (fun h => c2 h.1), h4 la k c1 c2 c3]
    · intro q' k a b
      rw [gI, if_neg (by simp), h5 q' k a b]
    · intro k a
      rw [gI, if_neg (by simp), h6 k a]
  obtain ⟨D', e, f7, p⟩ := Fq_step 6 hz (by decide) (fun k hk => by
    have hk0 : k = 0 := by
      have : roL 6 = 1 := rfl
      omega
    subst hk0
    show (setI D (11, 0, 46, 0) 0 (D.1 (11, 0, 0, 0) 46)).1 (11, 0, 46, 0) 0 = D0.1 (11, 0, 0, 0) 46
    rw [gI, if_pos ⟨rfl, rfl⟩, h46]) f
  refine ⟨D', e, ?_⟩
  have pv : D'.1 (11, 0, 46, 0) 0 = D0.1 (11, 0, 0, 0) 46 := by rw [p, gI, if_pos ⟨rfl, rfl⟩, h46]
  obtain ⟨h1, h2, h3, h4, h5, h6⟩ := f7
  refine ⟨h1, ?_, ?_, ?_, ?_, ?_⟩
  · rw [gI, if_neg (by simp), h2]
  · rw [gI, if_neg (by simp), h3]
  · intro la k c1 c2 c3
    rw [gI]
    by_cases c : la = (11, 0, 0, 0) ∧ k = 46
    · rw [if_pos c, pv, c.1, c.2]
    · rw [if_neg c, h4 la k c1 c2 c3]
  · intro q' k a b
    rw [gI, if_neg (by simp), h5 q' k a b]
  · intro k a
    rw [gI, if_neg (by simp), h6 k a]
theorem Bq_six {z : Nat} {D0 D : Dt} (hz : z + 945 ≤ 5000) (h : Bq z D0 D 6) : ∃ D', F_X11_carryRow (11, 0, 46, 0) (setI D (11, 0, 46, 0) 0 (D.1 (11, 0, 0, 0) 46)) = some D' ∧ Bq z D0 (setI D' (11, 0, 0, 0) 46 (D'.1 (11, 0, 46, 0) 0)) 7 := by
  obtain ⟨h1, h2, h3, h4, h5⟩ := h
  have n55 : ∀ q', q' < 15 → (11, 0, 55, 0) ≠ lvA q' := fun q' hq' e => (lvA_sh q' hq').2.2.1 e.symm
  have e34 : roE 6 = 34 := rfl
  have e35 : roE 7 = 35 := rfl
  obtain ⟨D', e, g1, g2, g3, g4, g5⟩ := r_carB (a1 := (11, 0, 46, 0)) (n := 1) (z := z + 34) (D := setI D (11, 0, 46, 0) 0 (D.1 (11, 0, 0, 0) 46)) (by decide) rfl (by simp) (by simp) (by omega) (by decide) (by rw [gI, if_neg (by simp), h2]) (by rw [gI, if_neg (by simp), h3, e34])
  refine ⟨D', e, g1.trans h1, ?_, ?_, ?_, ?_⟩
  · rw [gI, if_neg (by simp), g3 _ _ (by simp) (by simp), gI, if_neg (by simp), h2]
  · rw [gI, if_neg (by simp), g2, e35]
  · intro la k c1 c2 c3
    have c3' : ¬ (la = (11, 0, 0, 0) ∧ (k = 56 ∨ k = 57 ∨ (k = 46 ∧ 6 < 6))) := fun h => c3 ⟨h.1, by omega⟩
    rw [gI, if_neg (fun h => c3 ⟨h.1, by omega⟩), g3 la k c2 (fun h => c3 ⟨h.1, Or.inl h.2⟩), gI, if_neg (fun h => c2 h.1), h4 la k (fun q' hq' => c1 q' (by omega)) c2 c3']
  · intro q' k hq' hk
    by_cases c6 : q' = 6
    · subst c6
      have hk0 : k = 0 := by
        have : roL 6 = 1 := rfl
        omega
      subst hk0
      show (setI D' (11, 0, 0, 0) 46 (D'.1 (11, 0, 46, 0) 0)).1 (11, 0, 0, 0) 46 = _
      rw [gI, if_pos ⟨rfl, rfl⟩, g4 0 (by decide), gI, if_neg (by simp), h4 _ _ (fun q' hq' => n55 q' (by omega)) (by simp) (by simp)]
      rfl
    · rw [← h5 q' k (by omega) hk, ← lvA_lv q' (by omega) c6, ← lvA_lv q' (by omega) c6]
      have a46 := lvA_46 q' (by omega) c6
      have a00 := (lvA_sh q' (by omega)).2.2.2
      rw [gI, if_neg (fun h => a00 h.1), g3 _ _ a46 (fun h => a00 h.1), gI, if_neg (fun h => a46 h.1)]
theorem r_carryF {i : Nat} {D : Dt} (hi : i < 4) : ∃ D', F_X11_carriesAll (nI i) 0 D = some D' ∧ Fq' (1000 * i) D D' 15 := by
  have hz : 1000 * i + 945 ≤ 5000 := by omega
  obtain ⟨D6, f6, e⟩ := r_keepF (z := 1000 * i) (i := i) (D := D) rfl (by omega)
  obtain ⟨D7, e7, f7⟩ := Fq_six hz f6
  obtain ⟨D8, e8, f8⟩ := Fq_plain 7 hz (by decide) (by decide) f7
  obtain ⟨D9, e9, f9⟩ := Fq_plain 8 hz (by decide) (by decide) f8
  obtain ⟨D10, e10, f10⟩ := Fq_plain 9 hz (by decide) (by decide) f9
  obtain ⟨D11, e11, f11⟩ := Fq_plain 10 hz (by decide) (by decide) f10
  obtain ⟨D12, e12, f12⟩ := Fq_plain 11 hz (by decide) (by decide) f11
  obtain ⟨D13, e13, f13⟩ := Fq_plain 12 hz (by decide) (by decide) f12
  obtain ⟨D14, e14, f14⟩ := Fq_plain 13 hz (by decide) (by decide) f13
  obtain ⟨D15, e15, f15⟩ := Fq_plain 14 hz (by decide) (by decide) f14
  refine ⟨D15, (e _).trans ?_, f15⟩
  have hn4 : ¬ nI i = (4 : Int32) := fun h => by have := (nI_eq (a := i) (b := 4) (by omega) (by decide)).mp h; omega
  rw [if_neg hn4, bnd_ei, e7, vbd_s, bnd_ei, show F_X11_carryRow (11, 0, 8, 0) _ = _ from e8, vbd_s, show F_X11_carryRow (11, 0, 9, 0) _ = _ from e9, vbd_s, show F_X11_carryRow (11, 0, 10, 0) _ = _ from e10, vbd_s, show F_X11_carryRow (11, 0, 11, 0) _ = _ from e11, vbd_s, show F_X11_carryRow (11, 0, 12, 0) _ = _ from e12, vbd_s, show F_X11_carryRow (11, 0, 13, 0) _ = _ from e13, vbd_s, show F_X11_carryRow (11, 0, 14, 0) _ = _ from e14, vbd_s, show F_X11_carryRow (11, 0, 45, 0) _ = _ from e15, vbd_s]
theorem r_carryB {i : Nat} {D : Dt} (hi : i < 4) : ∃ D', F_X11_carriesAll (nI i) 1 D = some D' ∧ Bq (1000 * i) D D' 15 := by
  have hz : 1000 * i + 945 ≤ 5000 := by omega
  obtain ⟨D6, f6, e⟩ := r_keepB (z := 1000 * i) (i := i) (D := D) rfl (by omega)
  obtain ⟨D7, e7, f7⟩ := Bq_six hz f6
  obtain ⟨D8, e8, f8⟩ := Bq_plain 7 hz (by decide) (by decide) f7
  obtain ⟨D9, e9, f9⟩ := Bq_plain 8 hz (by decide) (by decide) f8
  obtain ⟨D10, e10, f10⟩ := Bq_plain 9 hz (by decide) (by decide) f9
  obtain ⟨D11, e11, f11⟩ := Bq_plain 10 hz (by decide) (by decide) f10
  obtain ⟨D12, e12, f12⟩ := Bq_plain 11 hz (by decide) (by decide) f11
  obtain ⟨D13, e13, f13⟩ := Bq_plain 12 hz (by decide) (by decide) f12
  obtain ⟨D14, e14, f14⟩ := Bq_plain 13 hz (by decide) (by decide) f13
  obtain ⟨D15, e15, f15⟩ := Bq_plain 14 hz (by decide) (by decide) f14
  refine ⟨D15, (e _).trans ?_, f15⟩
  have hn4 : ¬ nI i = (4 : Int32) := fun h => by have := (nI_eq (a := i) (b := 4) (by omega) (by decide)).mp h; omega
  rw [if_neg hn4, bnd_ei, e7, vbd_s, bnd_ei, show F_X11_carryRow (11, 0, 8, 0) _ = _ from e8, vbd_s, show F_X11_carryRow (11, 0, 9, 0) _ = _ from e9, vbd_s, show F_X11_carryRow (11, 0, 10, 0) _ = _ from e10, vbd_s, show F_X11_carryRow (11, 0, 11, 0) _ = _ from e11, vbd_s, show F_X11_carryRow (11, 0, 12, 0) _ = _ from e12, vbd_s, show F_X11_carryRow (11, 0, 13, 0) _ = _ from e13, vbd_s, show F_X11_carryRow (11, 0, 14, 0) _ = _ from e14, vbd_s, show F_X11_carryRow (11, 0, 45, 0) _ = _ from e15, vbd_s]
