theorem sg_list {F G : Nat → Int32} : ∀ (l : List En) (n : Nat), (∀ i, i < l.length → F (n + i) = (l.getD i (0, 0)).1 ∧ G (n + i) = (l.getD i (0, 0)).2) → sg F G n l.length = l
  | [], _, _ => rfl
  | x :: l, n, h => by
    show (F n, G n) :: sg F G (n + 1) l.length = x :: l
    obtain ⟨h1, h2⟩ := h 0 (by simp)
    have h1' : F n = x.1 := h1
    have h2' : G n = x.2 := h2
    rw [h1', h2', sg_list l (n + 1) (fun i hi => by
      have := h (i + 1) (by simp only [List.length_cons]; omega)
      rw [show n + (i + 1) = n + 1 + i by omega] at this
      exact this)]
theorem cl_at {F G : Nat → Int32} : ∀ (ls : List Cl2) (n c : Nat), c < ls.length → (∀ i, i < (cat ls).length → F (n + i) = ((cat ls).getD i (0, 0)).1 ∧ G (n + i) = ((cat ls).getD i (0, 0)).2) → ∃ x, x ∈ ls ∧ sA ls n c + x.1.length = tA ls n c ∧ tA ls n c + x.2.length = eA ls n c ∧ eA ls n c ≤ n + (cat ls).length ∧ sg F G (sA ls n c) x.1.length = x.1 ∧ sg F G (tA ls n c) x.2.length = x.2
  | [], n, c, hc, _ => absurd hc (Nat.not_lt_zero c)
  | x :: ls, n, 0, hc, h => by
    have a1 : ∀ i, i < (x.1 ++ x.2).length → (cat (x :: ls)).getD i (0, 0) = (x.1 ++ x.2).getD i (0, 0) := fun i hi => by
      show ((x.1 ++ x.2) ++ cat ls).getD i (0, 0) = _
      simp only [List.getD]
      rw [List.getElem?_append_left hi]
    have hl : (cat (x :: ls)).length = x.1.length + x.2.length + (cat ls).length := by
      show ((x.1 ++ x.2) ++ cat ls).length = _
      rw [List.length_append, List.length_append]
    refine ⟨x, List.mem_cons_self, rfl, ?_, ?_, ?_, ?_⟩
    · show n + x.1.length + x.2.length = n + (x.1 ++ x.2).length
      rw [List.length_append]
      omega
    · show n + (x.1 ++ x.2).length ≤ _
      rw [List.length_append, hl]
      omega
    · refine sg_list x.1 n (fun i hi => ?_)
      have := h i (by omega)
      rw [a1 i (by rw [List.length_append]; omega), show (x.1 ++ x.2).getD i (0, 0) = x.1.getD i (0, 0) by simp only [List.getD]; rw [List.getElem?_append_left hi]] at this
      exact this
    · refine sg_list x.2 (n + x.1.length) (fun i hi => ?_)
      have := h (x.1.length + i) (by omega)
      rw [a1 _ (by rw [List.length_append]; omega), show (x.1 ++ x.2).getD (x.1.length + i) (0, 0) = x.2.getD i (0, 0) by
        simp only [List.getD]
        rw [List.getElem?_append_right (by omega), show x.1.length + i - x.1.length = i by omega], ← Nat.add_assoc] at this
      exact this
  | x :: ls, n, c + 1, hc, h => by
    have hl : (cat (x :: ls)).length = (x.1 ++ x.2).length + (cat ls).length := by
      show ((x.1 ++ x.2) ++ cat ls).length = _
      rw [List.length_append]
    obtain ⟨y, g1, g2, g3, g4, g5, g6⟩ := cl_at (F := F) (G := G) ls (n + (x.1 ++ x.2).length) c (by simp only [List.length_cons] at hc; omega) (fun i hi => by
      have := h ((x.1 ++ x.2).length + i) (by omega)
      rw [show (cat (x :: ls)).getD ((x.1 ++ x.2).length + i) (0, 0) = (cat ls).getD i (0, 0) by
        show ((x.1 ++ x.2) ++ cat ls).getD _ (0, 0) = _
        simp only [List.getD]
        rw [List.getElem?_append_right (by omega), show (x.1 ++ x.2).length + i - (x.1 ++ x.2).length = i by omega], ← Nat.add_assoc] at this
      exact this)
    exact ⟨y, List.mem_cons_of_mem _ g1, g2, g3, by show eA ls (n + (x.1 ++ x.2).length) c ≤ _; omega, g5, g6⟩
def rlOf (ls : List Cl2) (F G : Nat → Int32) : Rl := (ls.length, sA ls 0, tA ls 0, eA ls 0, F, G)
def SgF (F G : Nat → Int32) (l : List En) : Prop := ∀ i, i < l.length → F i = (l.getD i (0, 0)).1 ∧ G i = (l.getD i (0, 0)).2
theorem rlOf_wf {T : Tp} {q : Nat} {ls : List Cl2} {F G : Nat → Int32} (hL : tpL T ≤ 400) (hq : q ≤ tpL T) (e : pRl T 13 0 q 0 = .inr ls) (h : SgF F G (cat ls)) : RWf (rlOf ls F G) := by
  obtain ⟨a1, a2, a3⟩ := (pRl_gd hL 13 0 q 0 hq (by decide)).2 ls e
  refine ⟨by show ls.length ≤ 12; omega, fun c hc => ?_⟩
  obtain ⟨x, g1, g2, g3, g4, g5, g6⟩ := cl_at (F := F) (G := G) ls 0 c hc (fun i hi => by rw [Nat.zero_add]; exact h i hi)
  obtain ⟨t1, t2, t3⟩ := a3 x g1
  have s1 : rSum (rlOf ls F G) c = x.1 := by
    show sg F G (sA ls 0 c) (tA ls 0 c - sA ls 0 c) = x.1
    rw [show tA ls 0 c - sA ls 0 c = x.1.length by omega]
    exact g5
  have s2 : rTst (rlOf ls F G) c = x.2 := by
    show sg F G (tA ls 0 c) (eA ls 0 c - tA ls 0 c) = x.2
    rw [show eA ls 0 c - tA ls 0 c = x.2.length by omega]
    exact g6
  rw [s1, s2]
  refine ⟨by show sA ls 0 c ≤ tA ls 0 c; omega, by show tA ls 0 c ≤ eA ls 0 c; omega, by show eA ls 0 c ≤ 300; omega, t1, t2, fun hlt => t3 (fun x0 => ?_)⟩
  have hlt' : tA ls 0 c < eA ls 0 c := hlt
  rw [x0] at g3
  simp only [List.length_nil] at g3
  omega
theorem RC.rl {D D' : Dt} {A : Al} (h : RC D A) (s : Sm (fun la _ => la.1 == 2 || la.1 == 4 || (la.1 == 3 && la.2.1 == alN A)) D D') (h1 : D'.1 (2, 0, 0, 0) 1 = 0) : RC D' (A.1, A.2.1, A.2.2.1, A.2.2.2.1, 0, alB A) := by
  obtain ⟨r1, r2, r3, r4, r5, r6, r7, r8⟩ := h
  have zw : ∀ w (la : LA) k, w < 5 → wcl w la = true → ((fun la _ => la.1 == 2 || la.1 == 4 || (la.1 == 3 && la.2.1 == alN A)) : LA → Nat → Bool) la k = false := by
    intro w la k hw e
    simp only [wcl, Bool.or_eq_true, Bool.and_eq_true, beq_iff_eq, decide_eq_true_eq, Bool.or_eq_false_iff, Bool.and_eq_false_iff, beq_eq_false_iff_ne] at e ⊢
    omega
  refine ⟨r1.sm s (fun la k e => zw 0 la k (by decide) e), fun w hw => ?_, fun k hk => ?_, fun k W hk hW => (r4 k W hk hW).sm s (fun la j e => zw (k + 1) la j (by omega) e), ?_, fun r hr => (r6 r hr).sm s (fun q k _ => by have : r < alN A := hr; simp; omega), h1, fun k hk => absurd hk (Nat.not_lt_zero k)⟩
  · obtain ⟨p, hp⟩ := r2 w hw
    exact ⟨p, hp.sm s (fun k => by simp)⟩
  · rw [s.i (by simp)]; exact r3 k hk
  · rw [s.i (by simp)]; exact r5
def addR (A : Al) (R : Rl) : Al := (A.1, A.2.1, alN A + 1, fun r => if r = alN A then R else alR A r, 0, alB A)
theorem c_rule {A : Al} {D : Dt} (hA : okA A) (hN : alN A < 6) (h : RC D A) : match pRl (taped A) 13 0 (sbk (taped A) 0) 0 with
    | .inl f => ∃ D', F_X10_rule D = some (-2 - nI f, D') ∧ RC D' (A.1, A.2.1, A.2.2.1, A.2.2.2.1, 0, alB A) ∧ Sm cS D D'
    | .inr ls => ∃ D' F G, F_X10_rule D = some (nI (alN A), D') ∧ SgF F G (cat ls) ∧ RC D' (addR A (rlOf ls F G)) ∧ Sm cS D D' := by
  have hT := okTp hA
  have hL := hT.1
  obtain ⟨D1, N, e1, t1, a6, a7, m1⟩ := c_split (D := D) hT ⟨h.2.2.2.2.2.2.1, h.2.2.2.2.2.2.2⟩
  have m2 : Sm (fun la k => la == (2, 0, 0, 0) && k == 1) D1 (setI D1 (2, 0, 0, 0) 1 0) := Sm.sI (by simp)
  have c2 : CP (setI D1 (2, 0, 0, 0) 1 0) (taped A) (sbk (taped A) 0) := (t1.cp a6 a7).sm m2 (fun q k _ _ => by simp; omega) (fun k _ _ => by simp; omega)
  have len2 : (setI D1 (2, 0, 0, 0) 1 0).1 (2, 0, 0, 0) 1 = 0 := gI_s
  have h5 : D.1 (10, 0, 0, 0) 5 = nI (alN A) := h.2.2.2.2.1
  rw [F_X10_rule, h5, if_pos (show nI (alN A) < (6 : Int32) from nI_lt (b := 6) hN (by decide)), e1, vbd_s, bnd_e]
  generalize setI D1 (2, 0, 0, 0) 1 0 = D2 at m2 c2 len2 ⊢
  have m12 : Sm (fun la _ => la.1 == 2) D D2 := by
    refine (m1.mono (fun la k e => ?_)).trans (m2.mono (fun la k e => ?_))
    · simp only [beq_eq_false_iff_ne] at e
      simp only [spS, Bool.or_eq_false_iff, Bool.and_eq_false_iff, beq_eq_false_iff_ne]
      exact ⟨⟨⟨fun x => e (by rw [x]), fun x => e (by rw [x])⟩, fun x => e (by rw [x])⟩, Or.inl (fun x => e (by rw [x]))⟩
    · simp only [beq_eq_false_iff_ne] at e
      simp only [Bool.and_eq_false_iff, beq_eq_false_iff_ne]
      exact Or.inl (fun x => e (by rw [x]))
  have h52 : D2.1 (10, 0, 0, 0) 5 = nI (alN A) := by rw [m12.i (by simp)]; exact h5
  rw [h52, grd_t (inBe hN (by decide)), nIc (by omega), F_X4_read, grd_t (V3 hN), F_X3_clear, grd_t (V3 hN), bnd_e, bnd_e, vbd_s, bnd_e]
  generalize hj : alN A = j at hN h5 h52 ⊢
  have m3 : Sm (fun la k => (la.1 == 3 && la.2.1 == j) || (la == (4, 0, 0, 0) && k == 1)) D2 (setI (setI (setI D2 (3, j, 0, 0) 2 0) (3, j, 0, 0) 6 0) (4, 0, 0, 0) 1 0) := ((Sm.sI (by simp)).trans (Sm.sI (by simp))).trans (Sm.sI (by simp))
  have x6 : (setI (setI (setI D2 (3, j, 0, 0) 2 0) (3, j, 0, 0) 6 0) (4, 0, 0, 0) 1 0).1 (3, j, 0, 0) 6 = nI 0 := by simp [gI]; rfl
  have s3 : CSt (setI (setI (setI D2 (3, j, 0, 0) 2 0) (3, j, 0, 0) 6 0) (4, 0, 0, 0) 1 0) (taped A) j (sbk (taped A) 0) 0 0 := ⟨c2.sm m3 (fun _ _ _ _ => by simp) (fun _ _ _ => by simp), by simp [gI]; rfl, by simp [gI]; rfl⟩
  generalize setI (setI (setI D2 (3, j, 0, 0) 2 0) (3, j, 0, 0) 6 0) (4, 0, 0, 0) 1 0 = D3 at m3 x6 s3 ⊢
  have hr := c_read hL hN 13 2000 0 (sbk (taped A) 0) 0 0 D3 (by omega) (by omega) (sbk_le (Nat.zero_le _)) (by omega) (by omega) s3 x6 (by decide)
  have big : ∀ {D4 : Dt}, Sm (rdJ j) D3 D4 → Sm (fun la _ => la.1 == 2 || la.1 == 4 || (la.1 == 3 && la.2.1 == alN A)) D D4 := fun s => by
    rw [hj]
    refine ((m12.mono (fun la k e => ?_)).trans (m3.mono (fun la k e => ?_))).trans (s.mono (fun la k e => ?_))
    · simp only [Bool.or_eq_false_iff] at e
      exact e.1.1
    · simp only [Bool.or_eq_false_iff, Bool.and_eq_false_iff, beq_eq_false_iff_ne] at e ⊢
      exact ⟨e.2, Or.inl (fun x => e.1.2 (by rw [x]))⟩
    · simp only [rdJ, prS, Bool.or_eq_false_iff, Bool.and_eq_false_iff, beq_eq_false_iff_ne] at e ⊢
      exact ⟨⟨Or.inl (fun x => e.1.1 (by rw [x])), Or.inl (fun x => e.1.2 (by rw [x]))⟩, e.2⟩
  have bc : ∀ {E E' : Dt}, Sm (fun la _ => la.1 == 2 || la.1 == 4 || (la.1 == 3 && la.2.1 == alN A)) E E' → Sm cS E E' := fun s => s.mono (fun la k e => by
    simp only [cS, Bool.not_eq_false', beq_iff_eq] at e
    simp [e])
  have len4 : ∀ {D4 : Dt}, Sm (rdJ j) D3 D4 → D4.1 (2, 0, 0, 0) 1 = 0 := fun s => by rw [s.i (by simp [rdJ, prS]), m3.i (by simp)]; exact len2
  cases ev : pRl (taped A) 13 0 (sbk (taped A) 0) 0 with
  | inl f =>
    rw [ev] at hr
    obtain ⟨D4, e4, m4⟩ := hr
    obtain ⟨f1, f2⟩ := (pRl_gd hL 13 0 _ 0 (sbk_le (Nat.zero_le _)) (by decide)).1 f ev
    simp only
    rw [show F_X4_read_b11 j 2000 0 D3 = _ from e4, cbd_s, if_neg (nI_ne0 (by omega) (by omega))]
    exact ⟨D4, rfl, h.rl (big m4) (len4 m4), bc (big m4)⟩
  | inr ls =>
    rw [ev] at hr
    obtain ⟨D4, e4, d1, d2, d3, d4, d5, m4⟩ := hr
    simp only
    have h54 : D4.1 (10, 0, 0, 0) 5 = nI j := by rw [(big m4).i (by simp)]; exact h5
    have hR := h.rl (big m4) (len4 m4)
    rw [show F_X4_read_b11 j 2000 0 D3 = _ from e4, cbd_s, if_pos rfl, h54, nI_1, bnd_e, gI_s]
    have m5 : Sm (fun la k => la == (10, 0, 0, 0) && k == 5) D4 (setI D4 (10, 0, 0, 0) 5 (nI (j + 1))) := Sm.sI (by simp)
    have x5 : (setI D4 (10, 0, 0, 0) 5 (nI (j + 1))).1 (10, 0, 0, 0) 5 = nI (j + 1) := gI_s
    generalize setI D4 (10, 0, 0, 0) 5 (nI (j + 1)) = D5 at m5 x5 ⊢
    refine ⟨D5, D5.1 (3, j, 1, 0), D5.1 (3, j, 2, 0), ?_, fun i hi => ?_, ?_, (bc (big m4)).trans (m5.mono (fun la k e => ?_))⟩
    · rw [nI_pred]
    · rw [m5.i (by simp), m5.i (by simp)]
      have := d3 i hi
      rw [Nat.zero_add] at this
      exact this
    · obtain ⟨r1, r2, r3, r4, r5, r6, r7, r8⟩ := hR
      have zw : ∀ w (la : LA) k, w < 5 → wcl w la = true → ((fun la k => la == (10, 0, 0, 0) && k == 5) : LA → Nat → Bool) la k = false := by
        intro w la k hw e
        simp only [Bool.and_eq_false_iff, beq_eq_false_iff_ne]
        left
        rintro rfl
        simp [wcl] at e
      refine ⟨r1.sm m5 (fun la k e => zw 0 la k (by decide) e), fun w hw => ?_, fun k hk => ?_, fun k W hk hW => (r4 k W hk hW).sm m5 (fun la j e => zw (k + 1) la j (by omega) e), ?_, fun r hr => ?_, ?_, fun k hk => absurd hk (Nat.not_lt_zero k)⟩
      · obtain ⟨p, hp⟩ := r2 w hw
        exact ⟨p, hp.sm m5 (fun k => by simp)⟩
      · rw [m5.i (by simp)]; exact r3 k hk
      · show D5.1 (10, 0, 0, 0) 5 = nI (alN A + 1)
        rw [hj]; exact x5
      · show CR D5 r (if r = alN A then _ else alR A r)
        have hr' : r < alN A + 1 := hr
        by_cases c : r = alN A
        · rw [if_pos c, c, hj]
          refine ⟨?_, rfl, rfl, fun c hc => ?_⟩
          · rw [m5.i (by simp), d1, Nat.zero_add]; rfl
          · obtain ⟨y1, y2, y3⟩ := d2 c hc
            rw [Nat.zero_add] at y1 y2 y3
            rw [m5.i (by simp), m5.i (by simp), m5.i (by simp)]
            exact ⟨y1, y2, y3⟩
        · rw [if_neg c]
          exact (r6 r (by show r < alN A; omega)).sm m5 (fun q k _ => by simp)
      · rw [m5.i (by simp)]; exact len4 m4
    · simp only [cS, Bool.not_eq_false', beq_iff_eq] at e
      simp only [Bool.and_eq_false_iff, beq_eq_false_iff_ne]
      left
      rintro rfl
      cases e
