def s5S (i : Nat) : LA → Nat → Bool := fun la _ => la.1 == 5 && la.2.1 == i
theorem V5r {i k q : Nat} (hi : i < 6) (hk : k < 5) (hq : q = 8 ∨ q = 9) : V (5, i, q, k + 1) = true ∧ sh (5, i, q, k + 1) = .inr (0, 61) := by
  rcases hq with rfl | rfl
  · refine ⟨?_, rfl⟩
    simp [V, nO, arT, hi, hk]
  · refine ⟨?_, rfl⟩
    simp [V, nO, arT, hi, hk]
theorem c_shCopy {i j : Nat} {D : Dt} {h : Shp} (hi : i < 6) (hj : j < 6) (hij : i ≠ j) (r : RCs D j h) : ∃ D', F_X5_copyFrom i j D = some D' ∧ RCs D' i h ∧ Sm (s5S i) D D' := by
  have vi := V5 hi
  have vj := V5 hj
  obtain ⟨h1, h2, h3, h4, h5, h6, h7⟩ := r
  have g01 : D.1 (5, j, 0, 0) 0 = 0 ∨ D.1 (5, j, 0, 0) 0 = 1 := by
    rw [h1]
    cases h.1 <;> simp
  have hji : ¬ j = i := fun e => hij e.symm
  have cr : ∀ (q : Nat) (D : Dt), q = 5 ∨ q = 6 ∨ q = 7 → F_X10_copyRow (5, j, q, 0) (5, i, q, 0) D = some (cpyI D (5, j, q, 0) (5, i, q, 0) 0 0 5) := by
    rintro q D (rfl | rfl | rfl) <;> exact c_copyRow (V_f _ vj (by decide)) (V_f _ vi (by decide)) rfl rfl (by decide)
  have cr2 : ∀ (q k : Nat) (D : Dt), q = 8 ∨ q = 9 → k < 5 → F_X10_copyRow (5, j, q, k + 1) (5, i, q, k + 1) D = some (cpyI D (5, j, q, k + 1) (5, i, q, k + 1) 0 0 61) := by
    intro q k D hq hk
    exact c_copyRow (V5r hj hk hq).1 (V5r hi hk hq).1 (V5r hj hk hq).2 (V5r hi hk hq).2 (by decide)
  rw [F_X5_copyFrom, grd_t vi, grd_t vj, grd_t g01]
  simp only [bnd_e]
  rw [cr 5 _ (by decide), vbd_s, cr 6 _ (by decide), vbd_s, cr 7 _ (by decide), vbd_s]
  generalize hE : cpyI (cpyI (cpyI _ (5, j, 5, 0) (5, i, 5, 0) 0 0 5) (5, j, 6, 0) (5, i, 6, 0) 0 0 5) (5, j, 7, 0) (5, i, 7, 0) 0 0 5 = E
  have sE : Sm (s5S i) D E := by
    rw [← hE]
    have z : ∀ a b k, s5S i (5, i, a, b) k = true := fun a b k => by simp [s5S]
    exact ((((((Sm.sI (z _ _ _)).trans (Sm.sI (z _ _ _))).trans (Sm.sI (z _ _ _))).trans (Sm.sI (z _ _ _))).trans (Sm.cp (fun k _ _ => z _ _ k))).trans (Sm.cp (fun k _ _ => z _ _ k))).trans (Sm.cp (fun k _ _ => z _ _ k))
  have a0 : ∀ k, k < 4 → E.1 (5, i, 0, 0) k = D.1 (5, j, 0, 0) k := by
    intro k hk
    rw [← hE]
    have : k = 0 ∨ k = 1 ∨ k = 2 ∨ k = 3 := by omega
    rcases this with rfl | rfl | rfl | rfl <;> simp [cpyI, gI, hji]
  have a5 : ∀ q k, q = 5 ∨ q = 6 ∨ q = 7 → k < 5 → E.1 (5, i, q, 0) k = D.1 (5, j, q, 0) k := by
    intro q k hq hk
    rw [← hE]
    rcases hq with rfl | rfl | rfl <;> simp [cpyI, gI, hji, va_cpy, hk]
  clear hE
  obtain ⟨D', f, e⟩ := lpC (fun fu k E => F_X5_copyFrom_b67 i j fu (nI k) E) (fun m G => Sm (fun la k => s5S i la k && (la.2.2.1 == 8 || la.2.2.1 == 9)) E G ∧ ∀ k v, k < m → v < 61 → G.1 (5, i, 8, k + 1) v = D.1 (5, j, 8, k + 1) v ∧ G.1 (5, i, 9, k + 1) v = D.1 (5, j, 9, k + 1) v) 5 some (by
    intro fu m G hm ⟨g1, g2⟩
    have gj : ∀ q b v, G.1 (5, j, q, b) v = D.1 (5, j, q, b) v := by
      intro q b v
      rw [g1.i (by simp [s5S, hji]), sE.i (by simp [s5S, hji])]
    refine ⟨cpyI (cpyI G (5, j, 8, m + 1) (5, i, 8, m + 1) 0 0 61) (5, j, 9, m + 1) (5, i, 9, m + 1) 0 0 61, ⟨(g1.trans (Sm.cp (fun k _ _ => by simp [s5S]))).trans (Sm.cp (fun k _ _ => by simp [s5S])), ?_⟩, ?_⟩
    · intro k v hk hv
      by_cases c : k = m
      · subst c
        rw [cp_ne (by simp), cp_in hv, cp_in hv, cp_ne (by simp), gj, gj]
        exact ⟨rfl, rfl⟩
      · have c2 : ¬ k + 1 = m + 1 := by omega
        rw [cp_ne (by simp), cp_ne (by simp [c]), cp_ne (by simp [c]), cp_ne (by simp)]
        exact g2 k v (by omega) hv
    · show F_X5_copyFrom_b67 i j (fu + 1) (nI m) G = F_X5_copyFrom_b67 i j fu (nI (m + 1)) _
      rw [F_X5_copyFrom_b67, if_neg (show ¬ (5 : Int32) ≤ nI m from nI_ge (b := 5) hm (by decide)), grd_t (inBe hm (by decide)), nIc (by omega), cr2 8 m _ (by decide) hm, vbd_s, cr2 9 m _ (by decide) hm, vbd_s]
      simp only [bnd_e, nI_1]) (by
    intro fu G _
    show F_X5_copyFrom_b67 i j (fu + 1) (nI 5) G = _
    rw [F_X5_copyFrom_b67, if_pos (show (5 : Int32) ≤ nI 5 from nI_le (a := 5) (by omega) (by omega))]) 5 2000 0 E (by omega) (by omega) ⟨Sm.refl, fun k v hk => absurd hk (by omega)⟩
  obtain ⟨f1, f2⟩ := f
  have fe : ∀ q k, q < 8 → D'.1 (5, i, q, 0) k = E.1 (5, i, q, 0) k := by
    intro q k hq
    have n1 : ¬ q = 8 := by omega
    have n2 : ¬ q = 9 := by omega
    exact f1.i (by simp [s5S, n1, n2])
  refine ⟨D', e, ⟨?_, ?_, ?_, ?_, fun k hk => ?_, fun k v hk hv => ?_, fun ht k v hk hv => ?_⟩, sE.trans (f1.mono (fun la k x => by simp [x]))⟩
  · rw [fe _ _ (by decide), a0 0 (by decide)]; exact h1
  · rw [fe _ _ (by decide), a0 1 (by decide)]; exact h2
  · rw [fe _ _ (by decide), a0 2 (by decide)]; exact h3
  · rw [fe _ _ (by decide), a0 3 (by decide)]; exact h4
  · rw [fe _ _ (by decide), a5 5 k (by decide) hk, fe _ _ (by decide), a5 6 k (by decide) hk, fe _ _ (by decide), a5 7 k (by decide) hk]; exact h5 k hk
  · rw [(f2 k v hk hv).1]; exact h6 k v hk hv
  · rw [(f2 k v hk hv).2]; exact h7 ht k v hk hv
theorem c_pastCopy {i j n : Nat} {D : Dt} {p p' : Nat → Nat} {f : Nat → St} (hi : i < 5) (hj : j < 5) (hij : i ≠ j) (hp : Pm D i p) (hp' : Pm D j p') (hn : n ≤ 20) (hs : D.1 (0, j, 0, 0) 1 = nI n) (hf : ∀ k, k < n → rdS D (21 * j + 1 + p' k) = f k) : ∃ D', F_X0_copyFrom i j D = some D' ∧ D'.1 (0, i, 0, 0) 1 = nI n ∧ Pm D' i p ∧ (∀ k, k < n → rdS D' (21 * i + 1 + p k) = f k) ∧ Sm (pcS i) D D' := by
  rw [F_X0_copyFrom, grd_t (V0 hi), grd_t (V0 hj), hs, bnd_ei]
  have s0 : Sm (pcS i) D (setI D (0, i, 0, 0) 1 (nI n)) := Sm.sI (by simp [pcS])
  obtain ⟨D', g, e⟩ := lpC (fun fu k E => F_X0_copyFrom_b10 i j fu (nI k) E) (fun m G => Sm (fun la k => la.1 == 6 && decide (21 * i < la.2.1 ∧ la.2.1 ≤ 21 * i + 20)) (setI D (0, i, 0, 0) 1 (nI n)) G ∧ ∀ k, k < m → rdS G (21 * i + 1 + p k) = f k) n some (by
    intro fu m G hm ⟨g1, g2⟩
    have hpi := hp.1 m (by omega)
    have hpj := hp'.1 m (by omega)
    have vi : V (6, 21 * i + 1 + p m, 0, 0) = true := V6 (by omega)
    have vj : V (6, 21 * j + 1 + p' m, 0, 0) = true := V6 (by omega)
    obtain ⟨D1, e1, r1, m1⟩ := c_copyFrom (D := G) vi vj
    have hG1 : G.1 (0, i, 0, 0) 1 = nI n := by rw [g1.i (by simp), gI_s]
    have hGi : G.2.2 (0, i, 1, 0) m = some (21 * i + 1 + p m) := by rw [g1.r (by simp)]; exact hpi.2
    have hGj : G.2.2 (0, j, 1, 0) m = some (21 * j + 1 + p' m) := by rw [g1.r (by simp)]; exact hpj.2
    refine ⟨D1, ⟨g1.trans (m1.mono (fun la k x => ?_)), fun k hk => ?_⟩, ?_⟩
    · simp only [stS, Bool.and_eq_false_iff, decide_eq_false_iff_not, beq_eq_false_iff_ne] at x ⊢
      omega
    · by_cases c : k = m
      · subst c
        have hz : rdS G (21 * j + 1 + p' k) = rdS D (21 * j + 1 + p' k) := by
          rw [rdS_sm g1 (fun q v => by simp; omega), rdS_sI (by simp)]
        rw [r1, hz, hf k hm]
      · have hpk := (hp.1 k (by omega)).1
        have : p k ≠ p m := fun x => c (hp.2 k m (by omega) (by omega) x)
        rw [rdS_sm m1 (fun q v => by simp [stS]; omega), g2 k (by omega)]
    · show F_X0_copyFrom_b10 i j (fu + 1) (nI m) G = F_X0_copyFrom_b10 i j fu (nI (m + 1)) _
      rw [F_X0_copyFrom_b10, hG1, if_neg (nI_ge hm (by omega)), grd_t (inBe (show m < 20 by omega) (by decide)), nIc (by omega), hGi, obd_s, grd_t vi, hGj, obd_s, grd_t vj, e1, vbd_s]
      simp only [bnd_e, nI_1]) (by
    intro fu G ⟨g1, g2⟩
    show F_X0_copyFrom_b10 i j (fu + 1) (nI n) G = _
    have hG1 : G.1 (0, i, 0, 0) 1 = nI n := by rw [g1.i (by simp), gI_s]
    rw [F_X0_copyFrom_b10, hG1, if_pos (nI_le (Nat.le_refl _) (by omega))]) n 2000 0 _ (by omega) (by omega) ⟨Sm.refl, fun k hk => absurd hk (by omega)⟩
  obtain ⟨g1, g2⟩ := g
  refine ⟨D', e, by rw [g1.i (by simp), gI_s], ⟨fun k hk => by rw [g1.r (by simp)]; exact hp.1 k hk, hp.2⟩, g2, s0.trans (g1.mono (fun la k x => ?_))⟩
  simp only [pcS, Bool.or_eq_false_iff, Bool.and_eq_false_iff, decide_eq_false_iff_not, beq_eq_false_iff_ne] at x ⊢
  exact x.2
theorem c_wCopy {i j : Nat} {D : Dt} {W : Wo} {p : Nat → Nat} (hi : i < 5) (hj : j < 5) (hij : i ≠ j) (r : RCw D j W) (hp : Pm D i p) : ∃ D', F_X9_copyFrom i j D = some D' ∧ RCw D' i W ∧ Sm (fun la _ => wcl i la) D D' := by
  obtain ⟨h1, h2, h3, h4, ⟨p', h5, h6⟩, h7, h8, h9, h10, h11⟩ := r
  have hji : ¬ j = i := fun e => hij e.symm
  obtain ⟨D1, e1, r1, s1⟩ := c_shCopy (i := i) (j := j) (by omega) (by omega) hij h1
  obtain ⟨D2, e2, r2, s2⟩ := c_copyFrom (D := D1) (i := 21 * i) (j := 21 * j) (V6 (by omega)) (V6 (by omega))
  have z5 : ∀ a b c k, s5S i (0, a, b, c) k = false := fun a b c k => by simp [s5S]
  have z6 : ∀ a b c k, stS (21 * i) (0, a, b, c) k = false := fun a b c k => by simp [stS]
  obtain ⟨D3, e3, q3, p3, f3, s3⟩ := c_pastCopy (i := i) (j := j) (D := D2) (n := woP W) (f := woF W) hi hj hij ((hp.sm s1 (fun k => z5 _ _ _ _)).sm s2 (fun k => z6 _ _ _ _)) ((h5.sm s1 (fun k => z5 _ _ _ _)).sm s2 (fun k => z6 _ _ _ _)) h3 (by rw [s2.i (z6 _ _ _ _), s1.i (z5 _ _ _ _), h4]) (fun k hk => by
    have := (h5.1 k (by omega)).1
    rw [rdS_sm s2 (fun q v => by simp [stS]; omega), rdS_sm s1 (fun q v => by simp [s5S]), h6 k hk])
  have n9 : ∀ a b c k, D3.1 (9, a, b, c) k = D.1 (9, a, b, c) k := fun a b c k => by rw [s3.i pcS_9, s2.i (by simp [stS]), s1.i (by simp [s5S])]
  have cr : ∀ (q : Nat) (D : Dt), q = 4 ∨ q = 5 ∨ q = 6 → F_X10_copyRow (9, j, q, 0) (9, i, q, 0) D = some (cpyI D (9, j, q, 0) (9, i, q, 0) 0 0 10) := by
    rintro q D (rfl | rfl | rfl) <;> exact c_copyRow (V_f _ (V9 hj) (by decide)) (V_f _ (V9 hi) (by decide)) rfl rfl (by decide)
  rw [F_X9_copyFrom, grd_t (V9 hi), grd_t (V9 hj), e1, vbd_s, e2, vbd_s, e3, vbd_s, cr 4 _ (by decide), vbd_s, cr 5 _ (by decide), vbd_s, cr 6 _ (by decide), vbd_s]
  simp only [bnd_e]
  generalize hE : setI _ (9, i, 0, 0) 8 _ = E
  have sE : Sm (fun la k => la.1 == 9 && la.2.1 == i) D3 E := by
    rw [← hE]
    exact (((((Sm.cp (fun k _ _ => by simp)).trans (Sm.cp (fun k _ _ => by simp))).trans (Sm.cp (fun k _ _ => by simp))).trans (Sm.sI (by simp))).trans (Sm.sI (by simp))).trans (Sm.sI (by simp))
  have a0 : ∀ k, k = 6 ∨ k = 7 ∨ k = 8 → E.1 (9, i, 0, 0) k = D.1 (9, j, 0, 0) k := by
    intro k hk
    rw [← hE]
    rcases hk with rfl | rfl | rfl <;> simp [cpyI, gI, hji, n9]
  have a4 : ∀ q k, q = 4 ∨ q = 5 ∨ q = 6 → k < 10 → E.1 (9, i, q, 0) k = D.1 (9, j, q, 0) k := by
    intro q k hq hk
    rw [← hE]
    rcases hq with rfl | rfl | rfl <;> simp [cpyI, gI, hji, va_cpy, hk, n9]
  have rE : ∀ x, rdS E x = rdS D3 x := fun x => rdS_sm sE (fun q k => by simp)
  refine ⟨E, rfl, ⟨?_, ?_, h3, ?_, ⟨p, p3.sm sE (fun k => by simp), fun k hk => ?_⟩, h7, ?_, fun k hk => ?_, ?_, ?_⟩, ?_⟩
  · exact ((r1.sm s2 (fun _ _ _ => by simp [stS])).sm s3 (fun _ _ _ => pcS_5)).sm sE (fun _ _ _ => by simp)
  · rw [rE, rdS_sm s3 (fun q k => pcS_6 (by omega)), r2, rdS_sm s1 (fun q k => by simp [s5S]), h2]
  · rw [sE.i (by simp), q3]
  · rw [rE, f3 k hk]
  · rw [a0 6 (by decide), h8]
  · rw [a4 4 k (by decide) (by omega), a4 5 k (by decide) (by omega), a4 6 k (by decide) (by omega)]
    exact h9 k hk
  · rw [a0 7 (by decide), h10]
  · rw [a0 8 (by decide), h11]
  · refine (((s1.mono ?_).trans (s2.mono ?_)).trans (s3.mono ?_)).trans (sE.mono ?_)
    all_goals
      intro la k x
      simp only [wcl, s5S, stS, pcS, Bool.or_eq_false_iff, Bool.and_eq_false_iff, decide_eq_false_iff_not, beq_eq_false_iff_ne] at x ⊢
      omega
