theorem r_test {T : Tp} {s p c n : Nat} {D : Dt} (hT : okT T) (hs : s < 6) (hp : p ≤ tpL T) (hc : c ≤ 60) (hb : 3 * n ≤ 6 * c + sbk T p) (h : RSt D T s p 0 c n) (h25 : D.1 (11, 0, 0, 0) 25 = 0) : RxD T s n D (pTst T (pFct T 10) (sbk T p) c) (F_X11_test D) := by
  have hL := hT.1
  have m : Sm skT D (setI D (11, 0, 0, 0) 27 0) := Sm.sI (by simp [skT])
  have S1 : SkS (setI D (11, 0, 0, 0) 27 0) (phys [(10, false, false, 0)]) (10 - (10 - 0)) := ⟨by rw [gI_s]; rfl, trivial, by rw [gI_k (by decide)]; exact h25⟩
  rw [F_X11_test, bnd_e]
  have hI := r_TB hT hs 2000 true 10 false false 0 [] p c n _ (by omega) hp hc ⟨rfl, Nat.zero_le _⟩ (Nat.zero_le _) (by
    rw [if_pos rfl]
    show 3 * (n + 0) + 0 ≤ _
    omega) (h.st m) S1
  rw [if_pos rfl] at hI
  refine RxD.pre (RxD.to hI ?_) (st_rx m)
  unfold Sp pTst
  rw [if_pos rfl]
  simp only [Kc]
  refine pB_cg (fun q1 c1 l1 _ => ?_)
  rw [show nots 0 ++ anL false = [] from rfl, pB_nil]
  exact pB_r
def rcS (b j : Nat) : LA → Nat → Bool := fun la k => rxS b la k || ((la == (11, 0, 34, 0) || la == (11, 0, 35, 0) || la == (11, 0, 36, 0)) && decide (j ≤ k))
theorem rx_rc {b j : Nat} {D D' : Dt} (s : Sm (rxS b) D D') : Sm (rcS b j) D D' := s.mono (fun la k e => (Bool.or_eq_false_iff.mp e).1)
theorem rc_w {b b' j j' : Nat} {D D' : Dt} (h : b ≤ b') (hj : j ≤ j') (s : Sm (rcS b' j') D D') : Sm (rcS b j) D D' := s.mono (fun la k e => by
  obtain ⟨e1, e2⟩ := Bool.or_eq_false_iff.mp e
  obtain ⟨e3, e4⟩ := Bool.or_eq_false_iff.mp e1
  refine Bool.or_eq_false_iff.mpr ⟨Bool.or_eq_false_iff.mpr ⟨?_, e4⟩, ?_⟩
  · simp only [rrS, Bool.or_eq_false_iff, Bool.and_eq_false_iff, decide_eq_false_iff_not] at e3 ⊢
    refine ⟨e3.1, ?_⟩
    rcases e3.2 with x | x
    · exact Or.inl x
    · exact Or.inr (by omega)
  · simp only [Bool.and_eq_false_iff, decide_eq_false_iff_not] at e2 ⊢
    rcases e2 with x | x
    · exact Or.inl x
    · exact Or.inr (by omega))
theorem rc_s {b j i q : Nat} {v : Int32} {D : Dt} (hq : q = 34 ∨ q = 35 ∨ q = 36) (h : j ≤ i) : Sm (rcS b j) D (setI D (11, 0, q, 0) i v) := Sm.sI (by
  rcases hq with rfl | rfl | rfl <;> simp [rcS, h])
theorem RSt.w {D : Dt} {T : Tp} {s p c n q k : Nat} {f v : Int32} (h : RSt D T s p f c n) (h1 : q ≠ 0) (h2 : q ≠ 30) : RSt (setI D (11, 0, q, 0) k v) T s p f c n := ⟨h.1.w h1 h2, by rw [gI_q (fun x => h1 x.symm)]; exact h.2.1, by rw [gI_q (fun x => h1 x.symm)]; exact h.2.2.1, by rw [gI_q (fun x => h1 x.symm)]; exact h.2.2.2.1, by rw [gI_q (fun x => h1 x.symm)]; exact h.2.2.2.2⟩
def RcC (T : Tp) (s cl n : Nat) (D : Dt) (x : Nat ⊕ (Nat × Nat × Cl2)) (res : Option Dt) : Prop := match x with
  | .inl f => ∃ D' p, res = some D' ∧ RP D' T p (nI f) ∧ p ≤ 2000 ∧ 0 < f ∧ f < 100000 ∧ Sm (rcS (300 * s + n) (12 * s + cl)) D D'
  | .inr (q1, c1, l1, l2) => ∃ D' p, res = some D' ∧ RSt D' T s p 0 c1 (n + (l1 ++ l2).length) ∧ sbk T p = q1 ∧ p ≤ tpL T ∧ SgM D' (300 * s + n) (l1 ++ l2) ∧ D'.1 (11, 0, 0, 0) 25 = 0 ∧ D'.1 (11, 0, 34, 0) (12 * s + cl) = nI n ∧ D'.1 (11, 0, 35, 0) (12 * s + cl) = nI (n + l1.length) ∧ D'.1 (11, 0, 36, 0) (12 * s + cl) = nI (n + (l1 ++ l2).length) ∧ Sm (rcS (300 * s + n) (12 * s + cl)) D D'
theorem r_rClause {T : Tp} {s cl p c n : Nat} {D : Dt} (hT : okT T) (hs : s < 6) (hcl : cl ≤ 12) (hp : p ≤ tpL T) (hc : c ≤ 60) (hb : 3 * n ≤ 6 * c + sbk T p) (h : RSt D T s p 0 c n) (h25 : D.1 (11, 0, 0, 0) 25 = 0) : RcC T s cl n D (pCl T cl (sbk T p) c) (F_X11_ruleClause (nI cl) D) := by
  have hL := hT.1
  obtain ⟨D1, e1, r1, m1⟩ := r_blk hT (by omega) h.1
  have h1 := h.p r1 (p20_21 m1)
  have mm1 : Sm (rrS (300 * s + n)) D D1 := p21_rr (p20_21 m1)
  have x25 : D1.1 (11, 0, 0, 0) 25 = 0 := by rw [mm1.i (by rw [rr_00]; decide)]; exact h25
  have hq := sbk_le hp
  rw [F_X11_ruleClause, e1, vbd_s, bnd_e]
  generalize sbk T p = q at hq hb r1 h1 ⊢
  rw [show F_X11_stood 5 D1 = _ from r_word (k := 13) hT (by omega) (by decide) h1.1, cbd_s, h1.1.2.1]
  have k12 : (nI cl = (12 : Int32)) = (cl = 12) := propext ⟨fun e => (nI_eq (b := 12) (by omega) (by decide)).mp e, fun e => by rw [e]; rfl⟩
  simp only [k12]
  unfold pCl
  by_cases k33 : kd T q = 33
  · rw [i1t k33, if_neg (fun x => x k33)]
    by_cases c12 : 12 ≤ cl
    · obtain ⟨D2, e2, r2, m2⟩ := r_fails (x := q) (c := 4) h1.1
      rw [ft_0] at r2
      rw [if_pos c12, if_pos (show cl = 12 by omega), show F_X11_fails 4 (nI q) D1 = _ from e2, vbd_s]
      exact ⟨D2, q, rfl, r2, by omega, by omega, by omega, rx_rc (rr_rx (mm1.trans (p21_rr (m21 m2))))⟩
    · have hlt := kd_lt (T := T) (q := q) (by omega)
      obtain ⟨u1, u2⟩ := nq_gt hlt
      have hnx : nx T q = q + 3 := kd_nx (k := 13) (by decide) k33
      have hxl := nx_le hq
      have hsb : sbk T (q + 3) = nq T q := by unfold nq; rw [hnx]
      obtain ⟨h2, m2⟩ := h1.s20 (p' := q + 3)
      have ix : (12 : Int32) * nI s + nI cl = nI (12 * s + cl) := by rw [show (12 : Int32) = nI 12 from rfl, pk_mul, nI_add]
      have hi72 := inBe (show 12 * s + cl < 72 by omega) (by decide)
      rw [if_neg c12, if_neg (show ¬ cl = 12 by omega), show nI q + 3 = nI (q + 3) from nI_add q 3, bnd_e]
      have x25b : (setI D1 (11, 0, 0, 0) 20 (nI (q + 3))).1 (11, 0, 0, 0) 25 = 0 := by rw [gI_k (by decide)]; exact x25
      generalize setI D1 (11, 0, 0, 0) 20 (nI (q + 3)) = D2 at h2 m2 x25b ⊢
      rw [h2.2.1, ix, bnd_e, grd_t hi72, nIc (by omega), h2.2.2.1, bnd_e]
      have h3 := h2.w (q := 34) (k := 12 * s + cl) (v := nI n) (by decide) (by decide)
      have m3 : Sm (rcS (300 * s + n) (12 * s + cl)) D2 (setI D2 (11, 0, 34, 0) (12 * s + cl) (nI n)) := rc_s (Or.inl rfl) (Nat.le_refl _)
      have x34 : (setI D2 (11, 0, 34, 0) (12 * s + cl) (nI n)).1 (11, 0, 34, 0) (12 * s + cl) = nI n := gI_s
      have x25c : (setI D2 (11, 0, 34, 0) (12 * s + cl) (nI n)).1 (11, 0, 0, 0) 25 = 0 := by rw [gI_q (by decide)]; exact x25b
      generalize setI D2 (11, 0, 34, 0) (12 * s + cl) (nI n) = D3 at h3 m3 x34 x25c ⊢
      have m03 : Sm (rcS (300 * s + n) (12 * s + cl)) D D3 := ((rx_rc (rr_rx mm1)).trans (rx_rc (rr_rx (p21_rr m2)))).trans m3
      have hv := r_sum hT hs (show q + 3 ≤ tpL T by omega) hc (n := n) (by rw [hsb]; omega) h3
      rw [hsb] at hv
      -- the end of a clause
      have b104 : ∀ (E : Dt) (p' c' N : Nat) (f : Int32), RSt E T s p' f c' N → ∃ D', F_X11_ruleClause_b104 (nI cl) (nI (12 * s + cl)) E = some D' ∧ RSt D' T s p' f c' N ∧ D'.1 (11, 0, 36, 0) (12 * s + cl) = nI N ∧ (∀ z k, z ≠ 36 → D'.1 (11, 0, z, 0) k = E.1 (11, 0, z, 0) k) ∧ Sm (rcS (300 * s + n) (12 * s + cl)) E D' := by
        intro E p' c' N f hE
        rw [F_X11_ruleClause_b104, grd_t hi72, nIc (by omega), hE.2.2.1, bnd_e]
        exact ⟨_, rfl, hE.w (by decide) (by decide), gI_s, fun z k hz => gI_q hz, rc_s (Or.inr (Or.inr rfl)) (Nat.le_refl _)⟩
      have fl : ∀ (E : Dt) (p' f : Nat), RP E T p' (nI f) → p' ≤ 2000 → 0 < f → f < 100000 → Sm (rcS (300 * s + n) (12 * s + cl)) D E → ∃ D' p, F_X11_ruleClause_b104 (nI cl) (nI (12 * s + cl)) E = some D' ∧ RP D' T p (nI f) ∧ p ≤ 2000 ∧ 0 < f ∧ f < 100000 ∧ Sm (rcS (300 * s + n) (12 * s + cl)) D D' := by
        intro E p' f hE hp' hf1 hf2 hm
        rw [F_X11_ruleClause_b104, grd_t hi72, nIc (by omega), bnd_e]
        exact ⟨_, p', rfl, hE.w (by decide) (by decide), hp', hf1, hf2, hm.trans (rc_s (Or.inr (Or.inr rfl)) (Nat.le_refl _))⟩
      cases ev : pSum T (nq T q) c with
      | inl f =>
        rw [ev] at hv
        obtain ⟨D4, p4, c4, n4, e4, r4, a1, a2, a3, a4, m4⟩ := hv
        have hne : ¬ nI f = 0 := nI_ne0 (by omega) (by omega)
        have h5 := r4.w (q := 35) (k := 12 * s + cl) (v := D4.1 (11, 0, 0, 0) 24) (by decide) (by decide)
        rw [e4, vbd_s, bnd_e, h5.1.2.2, if_neg hne]
        exact fl _ p4 f h5.1 (by omega) a3 a4 ((m03.trans (rx_rc (rr_rx m4))).trans (rc_s (Or.inr (Or.inl rfl)) (Nat.le_refl _)))
      | inr y =>
        obtain ⟨q1, c1, l1⟩ := y
        obtain ⟨v1, v2, v3, v4, v5⟩ := slen hL u2 hc ev
        rw [ev] at hv
        obtain ⟨D4, e4, p4, d1, d2, d3, d4, d5, d6⟩ := hv
        have hp4 := d4 rfl
        subst hp4
        have h5 := d1.w (q := 35) (k := 12 * s + cl) (v := nI (n + l1.length)) (by decide) (by decide)
        have x34d : D4.1 (11, 0, 34, 0) (12 * s + cl) = nI n := by rw [d6.i (by simp [rrS])]; exact x34
        have x25d : D4.1 (11, 0, 0, 0) 25 = 0 := by rw [d6.i (by rw [rr_00]; decide)]; exact x25c
        rw [e4, vbd_s, d1.2.2.1, bnd_e, h5.1.2.2, if_pos rfl]
        have m5 : Sm (rcS (300 * s + n) (12 * s + cl)) D4 (setI D4 (11, 0, 35, 0) (12 * s + cl) (nI (n + l1.length))) := rc_s (Or.inr (Or.inl rfl)) (Nat.le_refl _)
        have y34 : (setI D4 (11, 0, 35, 0) (12 * s + cl) (nI (n + l1.length))).1 (11, 0, 34, 0) (12 * s + cl) = nI n := by rw [gI_q (by decide)]; exact x34d
        have y35 : (setI D4 (11, 0, 35, 0) (12 * s + cl) (nI (n + l1.length))).1 (11, 0, 35, 0) (12 * s + cl) = nI (n + l1.length) := gI_s
        have y25 : (setI D4 (11, 0, 35, 0) (12 * s + cl) (nI (n + l1.length))).1 (11, 0, 0, 0) 25 = 0 := by rw [gI_q (by decide)]; exact x25d
        have ySg : SgM (setI D4 (11, 0, 35, 0) (12 * s + cl) (nI (n + l1.length))) (300 * s + n) l1 := fun i hi => by rw [gI_q (by decide), gI_q (by decide)]; exact d5 i hi
        generalize setI D4 (11, 0, 35, 0) (12 * s + cl) (nI (n + l1.length)) = D5 at h5 m5 y34 y35 y25 ySg ⊢
        have m05 := (m03.trans (rx_rc (rr_rx d6))).trans m5
        obtain ⟨D6, e6, r6, m6⟩ := r_blk hT (by omega) h5.1
        rw [d2] at r6
        have h6 := h5.p r6 (p20_21 m6)
        have w16 : F_X11_stood 16 D6 = some ((if kd T p4 = 34 then 1 else 0), D6) := r_word (k := 14) hT (by omega) (by decide) h6.1
        have z : ∀ q k, q ≠ 0 → D6.1 (11, 0, q, 0) k = D5.1 (11, 0, q, 0) k := fun q k hq => p21_15 (p20_21 m6) q k hq
        have z25 : D6.1 (11, 0, 0, 0) 25 = 0 := by rw [(p20_21 m6).i (by simp [p21])]; exact y25
        rw [F_X11_takes, grd_t (by decide), e6, vbd_s, w16, cbd_s]
        simp only
        by_cases k34 : kd T p4 = 34
        · have hlt4 := kd_lt (T := T) (q := p4) (by omega)
          obtain ⟨u3, u4⟩ := nq_gt hlt4
          have hnx4 : nx T p4 = p4 + 2 := kd_nx (k := 14) (by decide) k34
          have hxl4 := nx_le v2
          have hsb4 : sbk T (p4 + 2) = nq T p4 := by unfold nq; rw [hnx4]
          obtain ⟨h7, m7⟩ := h6.s20 (p' := p4 + 2)
          rw [if_pos k34, if_pos k34, if_neg (show ¬ (1 : Int32) = 0 by decide), F_X11_takes_b27, h6.1.2.1, show nI p4 + sLen 16 = nI (p4 + 2) from nI_add p4 2, bnd_e, grd_t (Or.inr rfl), cbd_s, if_neg (show ¬ (1 : Int32) = 0 by decide)]
          have z7 : ∀ q k, q ≠ 0 → (setI D6 (11, 0, 0, 0) 20 (nI (p4 + 2))).1 (11, 0, q, 0) k = D5.1 (11, 0, q, 0) k := fun q k hq => by rw [gI_q hq]; exact z q k hq
          have z725 : (setI D6 (11, 0, 0, 0) 20 (nI (p4 + 2))).1 (11, 0, 0, 0) 25 = 0 := by rw [gI_k (by decide)]; exact z25
          generalize setI D6 (11, 0, 0, 0) 20 (nI (p4 + 2)) = D7 at h7 m7 z7 z725 ⊢
          have ht := r_test hT hs (show p4 + 2 ≤ tpL T by omega) v4 (n := n + l1.length) (by rw [hsb4]; omega) h7 z725
          rw [hsb4] at ht
          have m07 := (m05.trans (rx_rc (rr_rx (p21_rr (p20_21 m6))))).trans (rx_rc (rr_rx (p21_rr m7)) : Sm (rcS (300 * s + n) (12 * s + cl)) D6 D7)
          cases ev2 : pTst T (pFct T 10) (nq T p4) c1 with
          | inl f =>
            rw [ev2] at ht
            obtain ⟨D8, p8, e8, r8, b1, b2, b3, m8⟩ := ht
            rw [e8, vbd_s]
            exact fl D8 p8 f r8 b1 b2 b3 (m07.trans (rc_w (by omega) (Nat.le_refl _) (rx_rc m8)))
          | inr y2 =>
            obtain ⟨q2, c2, l2⟩ := y2
            rw [ev2] at ht
            obtain ⟨D8, e8, p8, f1, f2, f3, f4, f5, f6⟩ := ht
            obtain ⟨D9, e9, h9, a36, ao, m9⟩ := b104 D8 p8 c2 _ 0 f1
            have t34 : ∀ q, q = 34 ∨ q = 35 → D8.1 (11, 0, q, 0) (12 * s + cl) = D5.1 (11, 0, q, 0) (12 * s + cl) := fun q hq => by
              rcases hq with rfl | rfl
              · rw [f5.i (by simp [rxS, rrS, skT])]; exact z7 34 _ (by decide)
              · rw [f5.i (by simp [rxS, rrS, skT])]; exact z7 35 _ (by decide)
            have f4' : SgM D8 (300 * s + n + l1.length) l2 := by rw [Nat.add_assoc]; exact f4
            have s1 : SgM D8 (300 * s + n) (l1 ++ l2) := SgM.app (SgM.sx (fun i hi => by rw [z7 31 _ (by decide), z7 32 _ (by decide)]; exact ySg i hi) f5 (by omega)) f4'
            rw [e8, vbd_s, e9]
            refine ⟨D9, p8, rfl, by rw [List.length_append, ← Nat.add_assoc]; exact h9, f2, f3, fun i hi => ?_, ?_, ?_, ?_, ?_, (m07.trans (rc_w (by omega) (Nat.le_refl _) (rx_rc f5))).trans m9⟩
            · rw [ao 31 _ (by decide), ao 32 _ (by decide)]; exact s1 i hi
            · rw [ao 0 _ (by decide)]; exact f6
            · rw [ao 34 _ (by decide), t34 34 (Or.inl rfl)]; exact y34
            · rw [ao 35 _ (by decide), t34 35 (Or.inr rfl)]; exact y35
            · rw [List.length_append, ← Nat.add_assoc]; exact a36
        · obtain ⟨h7, m7⟩ := h6.s20 (p' := p4)
          rw [if_neg k34, if_neg k34, if_pos rfl, F_X11_takes_b27, h6.1.2.1, show nI p4 + 0 = nI p4 from nI_add p4 0, bnd_e, grd_t (Or.inl rfl), cbd_s, if_pos rfl]
          obtain ⟨D9, e9, h9, a36, ao, m9⟩ := b104 _ p4 c1 _ 0 h7
          rw [e9]
          refine ⟨D9, p4, rfl, by rw [List.append_nil]; exact h9, d2, v2, fun i hi => ?_, ?_, ?_, ?_, by rw [List.append_nil]; exact a36, ((m05.trans (rx_rc (rr_rx (p21_rr (p20_21 m6))))).trans (rx_rc (rr_rx (p21_rr m7)) : Sm (rcS (300 * s + n) (12 * s + cl)) _ _)).trans m9⟩
          · rw [ao 31 _ (by decide), ao 32 _ (by decide), gI_q (by decide), gI_q (by decide), z 31 _ (by decide), z 32 _ (by decide), List.append_nil]
            rw [List.append_nil] at hi
            exact ySg i hi
          · rw [ao 0 _ (by decide), gI_k (by decide)]; exact z25
          · rw [ao 34 _ (by decide), gI_q (by decide), z 34 _ (by decide)]; exact y34
          · rw [ao 35 _ (by decide), gI_q (by decide), z 35 _ (by decide)]; exact y35
  · obtain ⟨D2, e2, r2, m2⟩ := r_fails (x := q) (c := 0) h1.1
    rw [ft_0] at r2
    rw [i1f k33, if_pos k33, show F_X11_fails 0 (nI q) D1 = _ from e2, vbd_s]
    exact ⟨D2, q, rfl, r2, by omega, by omega, by omega, rx_rc (rr_rx (mm1.trans (p21_rr (m21 m2))))⟩
def RlO (T : Tp) (s cl n : Nat) (D : Dt) (ls : List Cl2) (D' : Dt) : Prop := (∃ p, RP D' T p 0) ∧ (∀ c, c < ls.length → D'.1 (11, 0, 34, 0) (12 * s + cl + c) = nI (sA ls n c) ∧ D'.1 (11, 0, 35, 0) (12 * s + cl + c) = nI (tA ls n c) ∧ D'.1 (11, 0, 36, 0) (12 * s + cl + c) = nI (eA ls n c)) ∧ SgM D' (300 * s + n) (cat ls) ∧ Sm (rcS (300 * s + n) (12 * s + cl)) D D'
def RlC (T : Tp) (s cl n : Nat) (D : Dt) (x : Nat ⊕ List Cl2) (kk : Int32 → Dt → Option (Int32 × Dt)) (res : Option (Int32 × Dt)) : Prop := match x with
  | .inl f => ∃ D' p v, res = kk v D' ∧ RP D' T p (nI f) ∧ 0 < f ∧ f < 100000 ∧ Sm (rcS (300 * s + n) (12 * s + cl)) D D'
  | .inr ls => ∃ D', res = kk (nI (cl + ls.length)) D' ∧ RlO T s cl n D ls D'
theorem r_rLoop {T : Tp} {s : Nat} {kk : Int32 → Dt → Option (Int32 × Dt)} (hT : okT T) (hs : s < 6) : ∀ m fu cl p c n D, cl + m = 13 → m + 1 < fu → (m = 0 → False) → p ≤ tpL T → c ≤ 60 → 3 * n ≤ 6 * c + sbk T p → RSt D T s p 0 c n → D.1 (11, 0, 0, 0) 25 = 0 → RlC T s cl n D (pRl T m cl (sbk T p) c) kk (F_X11_rule_b27 kk fu (nI cl) 1 D) := by
  have hL := hT.1
  intro m
  induction m with
  | zero => intros; exact absurd rfl (by assumption)
  | succ m ih =>
    intro fu cl p c n D hcl hf _ hp hc hb h h25
    obtain ⟨fu, rfl⟩ : ∃ g, fu = g + 2 := ⟨fu - 2, by omega⟩
    have hC := r_rClause (cl := cl) hT hs (by omega) hp hc hb h h25
    have hq := sbk_le hp
    obtain ⟨gd1, gd2⟩ := pCl_gd (cl := cl) hL hq hc
    rw [show fu + 2 = (fu + 1) + 1 from rfl, F_X11_rule_b27, if_neg (show ¬ (1 : Int32) = 0 by decide), pRl]
    cases ev : pCl T cl (sbk T p) c with
    | inl f =>
      rw [ev] at hC
      obtain ⟨D1, p1, e1, r1, a1, a2, a3, m1⟩ := hC
      have hne : ¬ nI f = 0 := nI_ne0 (by omega) (by omega)
      obtain ⟨D2, e2, r2, m2⟩ := r_goesOn hT (by omega) r1
      rw [if_neg (fun x => hne x.1)] at e2
      rw [if_neg (fun x => hne x.1)] at r2
      rw [e1, vbd_s, bnd_e, e2, cbd_s, F_X11_rule_b27, if_pos rfl]
      exact ⟨D2, _, _, rfl, r2, a2, a3, m1.trans (rx_rc (rr_rx (p21_rr m2)))⟩
    | inr y =>
      obtain ⟨q1, c1, l1, l2⟩ := y
      obtain ⟨b1, b2, b3, b4, b5, b6, _, _, _⟩ := gd2 q1 c1 l1 l2 ev
      rw [ev] at hC
      obtain ⟨D1, p1, e1, r1, d2, d3, d4, d5, d6, d7, d8, m1⟩ := hC
      obtain ⟨D2, e2, r2, m2⟩ := r_goesOn hT (by omega) r1.1
      rw [d2] at e2 r2
      have mm2 : Sm (rcS (300 * s + n) (12 * s + cl)) D1 D2 := rx_rc (rr_rx (p21_rr m2))
      have z : ∀ q k, q ≠ 0 → D2.1 (11, 0, q, 0) k = D1.1 (11, 0, q, 0) k := fun q k hq => p21_15 m2 q k hq
      have s1 : SgM D2 (300 * s + n) (l1 ++ l2) := fun i hi => by rw [z 31 _ (by decide), z 32 _ (by decide)]; exact d4 i hi
      rw [e1, vbd_s, bnd_e, nI_1, e2, cbd_s]
      simp only
      by_cases k0 : kd T q1 = 0
      · rw [if_neg (by omega)] at r2
        rw [if_pos k0, if_neg (by omega), F_X11_rule_b27, if_pos rfl]
        refine ⟨D2, rfl, ⟨_, r2⟩, fun c hc => ?_, ?_, m1.trans mm2⟩
        · have : c = 0 := by simp only [List.length_cons, List.length_nil] at hc; omega
          subst this
          rw [Nat.add_zero, z 34 _ (by decide), z 35 _ (by decide), z 36 _ (by decide)]
          exact ⟨d6, d7, d8⟩
        · simp only [cat, List.append_nil]
          exact s1
      · rw [if_neg k0]
        by_cases k4 : kd T q1 = 4
        · have hlt := kd_lt (T := T) (q := q1) (by omega)
          obtain ⟨g1, g2⟩ := nq_gt hlt
          have hnx : nx T q1 = q1 + 1 := kd_c1 (c := 59) hT rfl (by decide) (by decide) (by decide) (by decide) k4
          have hsb : sbk T (q1 + 1) = nq T q1 := by unfold nq; rw [hnx]
          rw [if_neg (fun x => x.2.2 k4)] at r2
          have h2 := r1.p r2 m2
          rw [if_pos k4, if_pos ⟨trivial, k4⟩]
          have hI := ih (fu + 1) (cl + 1) (q1 + 1) c1 (n + (l1 ++ l2).length) D2 (by omega) (by omega) (by omega) (by omega) b5 (by rw [hsb]; omega) h2 (by rw [m2.i (by simp [p21])]; exact d5)
          rw [hsb] at hI
          cases ev2 : pRl T m (cl + 1) (nq T q1) c1 with
          | inl f =>
            rw [ev2] at hI
            obtain ⟨D3, p3, v, e3, r3, a1, a2, m3⟩ := hI
            exact ⟨D3, p3, v, e3, r3, a1, a2, (m1.trans mm2).trans (rc_w (by omega) (by omega) m3)⟩
          | inr ls =>
            rw [ev2] at hI
            obtain ⟨D3, e3, f1, f2, f3, m3⟩ := hI
            have low : ∀ q, q = 34 ∨ q = 35 ∨ q = 36 → D3.1 (11, 0, q, 0) (12 * s + cl) = D1.1 (11, 0, q, 0) (12 * s + cl) := fun q hq => by
              rw [m3.i (by rcases hq with rfl | rfl | rfl <;> simp [rcS, rxS, rrS, skT])]
              exact z q _ (by omega)
            refine ⟨D3, ?_, f1, fun c hc => ?_, ?_, (m1.trans mm2).trans (rc_w (by omega) (by omega) m3)⟩
            · rw [e3]
              congr 2
              simp only [List.length_cons]
              omega
            · cases c with
              | zero =>
                rw [Nat.add_zero, low 34 (Or.inl rfl), low 35 (Or.inr (Or.inl rfl)), low 36 (Or.inr (Or.inr rfl))]
                exact ⟨d6, d7, d8⟩
              | succ c =>
                have := f2 c (by simp only [List.length_cons] at hc; omega)
                rw [show 12 * s + (cl + 1) + c = 12 * s + cl + (c + 1) by omega] at this
                exact this
            · refine SgM.app (fun i hi => ?_) (by rw [Nat.add_assoc]; exact f3)
              have hi' : i < l1.length + l2.length := by rw [← List.length_append]; exact hi
              rw [m3.i (by simp [rcS, rxS, rrS, skT]; omega), m3.i (by simp [rcS, rxS, rrS, skT]; omega)]
              exact s1 i hi
        · rw [if_pos ⟨rfl, k0, k4⟩] at r2
          rw [if_neg k4, if_neg (fun x => k4 x.2), F_X11_rule_b27, if_pos rfl]
          exact ⟨D2, _, _, rfl, r2, by omega, by omega, m1.trans mm2⟩
theorem rc_m {b j : Nat} {D D' : Dt} (s : Sm (rcS b j) D D') : Sm mS D D' := s.mono (fun la k e => by
  simp only [mS, beq_eq_false_iff_ne] at e
  simp only [rcS, rxS, rrS, skT, Bool.or_eq_false_iff, Bool.and_eq_false_iff, beq_eq_false_iff_ne]
  have h : ∀ q, la ≠ (11, 0, q, 0) := fun q x => e (by rw [x])
  exact ⟨⟨⟨Or.inl (h 0), Or.inl ⟨h 31, h 32⟩⟩, Or.inl (h 0), h 37⟩, Or.inl ⟨⟨h 34, h 35⟩, h 36⟩⟩)
def rqS (s : Nat) : LA → Nat → Bool := fun la k => rcS (300 * s) (12 * s) la k || (la == (11, 0, 0, 0) && (k == 19 || k == 22 || k == 23)) || (la == (11, 0, 33, 0) && k == s)
theorem rc_rq {s : Nat} {D D' : Dt} (m : Sm (rcS (300 * s) (12 * s)) D D') : Sm (rqS s) D D' := m.mono (fun la k e => by
  unfold rqS at e
  simp only [Bool.or_eq_false_iff] at e
  exact e.1.1)
theorem rq_o {s q k : Nat} (h : ¬ (30 < q ∧ q < 38)) (h0 : q ≠ 0) : rqS s (11, 0, q, 0) k = false := by
  simp [rqS, rcS, rxS, rrS, skT]
  omega
theorem rq_0 {s k : Nat} (h : k = 28 ∨ k = 39 ∨ k = 40 ∨ k = 42 ∨ k = 46) : rqS s (11, 0, 0, 0) k = false := by
  rcases h with rfl | rfl | rfl | rfl | rfl <;> simp [rqS, rcS, rxS, rrS, skT]
theorem rq_lv {s : Nat} {D D' : Dt} (m : Sm (rqS s) D D') : lvR D' = lvR D := by
  funext q k
  simp only [lvR]
  by_cases c0 : q = 0
  · rw [if_pos c0, if_pos c0, m.i (rq_o (by omega) (by omega))]
  · rw [if_neg c0, if_neg c0]
    by_cases c5 : q ≤ 5
    · rw [if_pos c5, if_pos c5, m.i (rq_o (by omega) (by omega))]
    · rw [if_neg c5, if_neg c5]
      by_cases c6 : q = 6
      · rw [if_pos c6, if_pos c6, m.i (rq_0 (by decide))]
      · rw [if_neg c6, if_neg c6]
        by_cases c13 : q ≤ 13
        · rw [if_pos c13, if_pos c13, m.i (rq_o (by omega) (by omega))]
        · rw [if_neg c13, if_neg c13, m.i (rq_o (by omega) (by omega))]
theorem MR.rq {s r : Nat} {D D' : Dt} {R : Rl} (h : MR D r R) (hw : RWf R) (hr : r < s) (m : Sm (rqS s) D D') : MR D' r R := by
  obtain ⟨g1, g2⟩ := h
  obtain ⟨w1, w2⟩ := hw
  have e31 : ∀ q k, q = 31 ∨ q = 32 → k < 300 * s → rqS s (11, 0, q, 0) k = false := fun q k hq hk => by
    rcases hq with rfl | rfl <;> (simp [rqS, rcS, rxS, rrS, skT]; omega)
  have e34 : ∀ q k, q = 34 ∨ q = 35 ∨ q = 36 → k < 12 * s → rqS s (11, 0, q, 0) k = false := fun q k hq hk => by
    rcases hq with rfl | rfl | rfl <;> (simp [rqS, rcS, rxS, rrS, skT]; omega)
  have e33 : rqS s (11, 0, 33, 0) r = false := by simp [rqS, rcS, rxS, rrS, skT]; omega
  refine ⟨by rw [m.i e33]; exact g1, fun c hc => ?_⟩
  obtain ⟨a1, a2, a3, a4⟩ := g2 c hc
  obtain ⟨b1, b2, b3, _⟩ := w2 c hc
  have h12 : 12 * r + c < 12 * s := by omega
  refine ⟨by rw [m.i (e34 34 _ (Or.inl rfl) h12)]; exact a1, by rw [m.i (e34 35 _ (Or.inr (Or.inl rfl)) h12)]; exact a2, by rw [m.i (e34 36 _ (Or.inr (Or.inr rfl)) h12)]; exact a3, fun k hk => ?_⟩
  have h300 : 300 * r + k < 300 * s := by omega
  rw [m.i (e31 31 _ (Or.inl rfl) h300), m.i (e31 32 _ (Or.inr rfl) h300)]
  exact a4 k hk
theorem RM.rq {s N' : Nat} {R' : Nat → Rl} {D D' : Dt} {A : Al} (h : RM D A) (m : Sm (rqS s) D D') (h19 : D'.1 (11, 0, 0, 0) 19 = 0) (h23 : D'.1 (11, 0, 0, 0) 23 = nI N') (hR : ∀ r, r < N' → MR D' r (R' r)) : RM D' (A.1, A.2.1, N', R', 0, alB A) := by
  obtain ⟨h1, h2, h3, h4, h5, h6, h7, h8, h9, h10, h11⟩ := h
  refine ⟨by rw [rq_lv m]; exact h1, fun k hk' => ?_, fun k W hk' hW => ?_, h23, hR, h19, fun k hk' => absurd hk' (Nat.not_lt_zero k), ?_, ?_, ?_, ?_⟩
  · rw [m.i (rq_o (by omega) (by omega))]; exact h2 k hk'
  · refine (h3 k W hk' hW).cong (fun q j hq hj => ?_)
    exact m.i (rq_o (by omega) (by omega))
  · rw [m.i (rq_0 (by decide))]; exact h8
  · rw [m.i (rq_0 (by decide))]; exact h9
  · rw [m.i (rq_0 (by decide))]; exact h10
  · rw [m.i (rq_0 (by decide))]; exact h11
theorem r_rule {A : Al} {D : Dt} (hA : okA A) (hN : alN A < 6) (h : RM D A) : match pRl (taped A) 13 0 (sbk (taped A) 0) 0 with
    | .inl f => ∃ D', F_X11_rule D = some (-2 - nI f, D') ∧ RM D' (A.1, A.2.1, A.2.2.1, A.2.2.2.1, 0, alB A) ∧ Sm mS D D'
    | .inr ls => ∀ F G, SgF F G (cat ls) → ∃ D', F_X11_rule D = some (nI (alN A), D') ∧ RM D' (addR A (rlOf ls F G)) ∧ Sm mS D D' := by
  have hT := okTp hA
  have hL := hT.1
  have hM := h
  obtain ⟨h1, h2, h3, h4, h5, h6, h7, h8, h9, h10, h11⟩ := h
  have hT0 : RT D (taped A) := ⟨h6, h7⟩
  have m2 : Sm (fun la k => la == (11, 0, 0, 0) && k == 22) D (setI D (11, 0, 0, 0) 22 (nI (alN A))) := Sm.sI (by simp)
  have x22 : (setI D (11, 0, 0, 0) 22 (nI (alN A))).1 (11, 0, 0, 0) 22 = nI (alN A) := gI_s
  rw [F_X11_rule, h4, if_neg (show ¬ nI (alN A) = (6 : Int32) from fun e => by have := (nI_eq (b := 6) (by omega) (by decide)).mp e; omega), bnd_e]
  generalize setI D (11, 0, 0, 0) 22 (nI (alN A)) = D2 at m2 x22 ⊢
  obtain ⟨D3, e3, r3, a24, a25, a26, m3⟩ := r_starts (hT0.sm m2 (by simp) (fun k => by simp))
  have h23 : D3.1 (11, 0, 0, 0) 23 = nI (alN A) := by rw [m3.i (by simp), m2.i (by simp)]; exact h4
  have st : RSt D3 (taped A) (alN A) 0 0 0 0 := ⟨r3, by rw [m3.i (by simp)]; exact x22, a24, a26, by rw [m3.i (by simp), m2.i (by simp)]; exact h11⟩
  have m03 : Sm (rqS (alN A)) D D3 := by
    refine (m2.mono (fun la k e => ?_)).trans (m3.mono (fun la k e => ?_))
    · by_cases c : la = (11, 0, 0, 0)
      · rw [c] at e ⊢
        simp [rqS, rcS, rxS, rrS, skT] at e ⊢
        omega
      · simp [c]
    · by_cases c : la = (11, 0, 0, 0)
      · rw [c] at e ⊢
        simp [rqS, rcS, rxS, rrS, skT] at e ⊢
        omega
      · simp [c]
  have rqm : ∀ {E E' : Dt}, Sm (rqS (alN A)) E E' → Sm mS E E' := fun m => m.mono (fun la k e => by
    simp only [mS, beq_eq_false_iff_ne] at e
    have hn : ∀ q, la ≠ (11, 0, q, 0) := fun q x => e (by rw [x])
    simp only [rqS, rcS, rxS, rrS, skT, Bool.or_eq_false_iff, Bool.and_eq_false_iff, beq_eq_false_iff_ne]
    exact ⟨⟨⟨⟨⟨Or.inl (hn 0), Or.inl ⟨hn 31, hn 32⟩⟩, Or.inl (hn 0), hn 37⟩, Or.inl ⟨⟨hn 34, hn 35⟩, hn 36⟩⟩, Or.inl (hn 0)⟩, Or.inl (hn 33)⟩)
  rw [e3, vbd_s]
  -- how it ends
  have fin : ∀ (E : Dt) (v : Int32) (p : Nat) (f : Nat), RP E (taped A) p (nI f) → f < 100000 → E.1 (11, 0, 0, 0) 22 = nI (alN A) → E.1 (11, 0, 0, 0) 23 = nI (alN A) → ∃ E', (fun l1_12 D13 => (bnd (setI D13 (11, 0, 0, 0) 19 (0 : Int32)) (fun D14 => (grd (inB (D14.1 (11, 0, 0, 0) 22) 6 = true) (bnd (setI D14 (11, 0, 33, 0) ((D14.1 (11, 0, 0, 0) 22).toNatClampNeg) l1_12) (fun D16 => (if (D16.1 (11, 0, 0, 0) 21) = 0 then (F_X11_rule_b79  (D16.1 (11, 0, 0, 0) 23) (1 : Int32) D16) else (F_X11_rule_b79  (D16.1 (11, 0, 0, 0) 23) (0 : Int32) D16)))))))) v E = some ((if f = 0 then nI (alN A) else -2 - nI f), E') ∧ E'.1 (11, 0, 0, 0) 19 = 0 ∧ E'.1 (11, 0, 0, 0) 23 = nI (if f = 0 then alN A + 1 else alN A) ∧ E'.1 (11, 0, 33, 0) (alN A) = v ∧ (∀ q k, q ≠ 0 → q ≠ 33 → E'.1 (11, 0, q, 0) k = E.1 (11, 0, q, 0) k) ∧ Sm (rqS (alN A)) E E' := by
    intro E v p f hE hf y22 y23
    have z22 : (setI E (11, 0, 0, 0) 19 0).1 (11, 0, 0, 0) 22 = nI (alN A) := by rw [gI_k (by decide)]; exact y22
    have z23 : (setI (setI E (11, 0, 0, 0) 19 0) (11, 0, 33, 0) (alN A) v).1 (11, 0, 0, 0) 23 = nI (alN A) := by rw [gI_q (by decide), gI_k (by decide)]; exact y23
    have z21 : (setI (setI E (11, 0, 0, 0) 19 0) (11, 0, 33, 0) (alN A) v).1 (11, 0, 0, 0) 21 = nI f := by rw [gI_q (by decide), gI_k (by decide)]; exact hE.2.2
    have b79 : ∀ (a : Nat), ∃ E', F_X11_rule_b79 (nI (alN A)) (nI a) (setI (setI E (11, 0, 0, 0) 19 0) (11, 0, 33, 0) (alN A) v) = (if nI f ≤ 0 then some (nI (alN A + a) - 1, E') else some (-2 - nI f, E')) ∧ E'.1 (11, 0, 0, 0) 19 = 0 ∧ E'.1 (11, 0, 0, 0) 23 = nI (alN A + a) ∧ E'.1 (11, 0, 33, 0) (alN A) = v ∧ (∀ q k, q ≠ 0 → q ≠ 33 → E'.1 (11, 0, q, 0) k = E.1 (11, 0, q, 0) k) ∧ Sm (rqS (alN A)) E E' := by
      intro a
      refine ⟨setI (setI (setI E (11, 0, 0, 0) 19 0) (11, 0, 33, 0) (alN A) v) (11, 0, 0, 0) 23 (nI (alN A + a)), ?_, ?_, gI_s, ?_, fun q k hq hq3 => ?_, ((Sm.sI (by simp [rqS])).trans (Sm.sI (by simp [rqS]))).trans (Sm.sI (by simp [rqS]))⟩
      · rw [F_X11_rule_b79, nI_add, bnd_e, gI_s, gI_k (by decide), z21]
      · rw [gI_k (by decide), gI_q (by decide), gI_s]
      · rw [gI_q (by decide), gI_s]
      · rw [gI_q hq, gI_q hq3, gI_q hq]
    show ∃ E', bnd _ _ = _ ∧ _
    rw [bnd_e, z22, grd_t (inBe hN (by decide)), nIc (by omega), bnd_e, z21, z23]
    by_cases c0 : f = 0
    · obtain ⟨E', e, g1, g2, g3, g4, g5⟩ := b79 1
      subst c0
      rw [if_pos rfl, show F_X11_rule_b79 (nI (alN A)) 1 _ = _ from e, if_pos (show nI 0 ≤ (0 : Int32) by decide), nI_pred]
      exact ⟨E', rfl, g1, g2, g3, g4, g5⟩
    · obtain ⟨E', e, g1, g2, g3, g4, g5⟩ := b79 0
      rw [if_neg (nI_ne0 (by omega) (by omega)), show F_X11_rule_b79 (nI (alN A)) 0 _ = _ from e, if_neg (nI_nle (by omega) (by omega)), if_neg c0, if_neg c0]
      exact ⟨E', rfl, g1, g2, g3, g4, g5⟩
  have hr := r_rLoop (kk := (fun l1_12 D13 => (bnd (setI D13 (11, 0, 0, 0) 19 (0 : Int32)) (fun D14 => (grd (inB (D14.1 (11, 0, 0, 0) 22) 6 = true) (bnd (setI D14 (11, 0, 33, 0) ((D14.1 (11, 0, 0, 0) 22).toNatClampNeg) l1_12) (fun D16 => (if (D16.1 (11, 0, 0, 0) 21) = 0 then (F_X11_rule_b79  (D16.1 (11, 0, 0, 0) 23) (1 : Int32) D16) else (F_X11_rule_b79  (D16.1 (11, 0, 0, 0) 23) (0 : Int32) D16))))))))) hT hN 13 2000 0 0 0 0 D3 (by omega) (by omega) (by decide) (Nat.zero_le _) (by omega) (by omega) st a25
  have keep : ∀ {E : Dt}, Sm (rcS (300 * alN A) (12 * alN A)) D3 E → E.1 (11, 0, 0, 0) 22 = nI (alN A) ∧ E.1 (11, 0, 0, 0) 23 = nI (alN A) := fun m => ⟨by rw [m.i (by simp [rcS, rxS, rrS, skT])]; exact st.2.1, by rw [m.i (by simp [rcS, rxS, rrS, skT])]; exact h23⟩
  have old : ∀ {E : Dt}, Sm (rqS (alN A)) D E → ∀ r, r < alN A → MR E r (alR A r) := fun m r hr => (h5 r hr).rq (hA.2.2.2.1 r hr) hr m
  cases ev : pRl (taped A) 13 0 (sbk (taped A) 0) 0 with
  | inl f =>
    rw [ev] at hr
    obtain ⟨D4, p4, v, e4, r4, f1, f2, m4⟩ := hr
    obtain ⟨k1, k2⟩ := keep m4
    obtain ⟨D5, e5, g1, g2, g3, g4, g5⟩ := fin D4 v p4 f r4 f2 k1 k2
    rw [if_neg (by omega)] at e5 g2
    have mm := (m03.trans (rc_rq m4)).trans g5
    simp only
    rw [show F_X11_rule_b27 _ 2000 0 1 D3 = _ from e4, show _ = _ from e5]
    exact ⟨D5, rfl, hM.rq mm g1 g2 (old mm), rqm mm⟩
  | inr ls =>
    rw [ev] at hr
    obtain ⟨D4, e4, ⟨p4, r4⟩, d2, d3, m4⟩ := hr
    obtain ⟨k1, k2⟩ := keep m4
    obtain ⟨D5, e5, g1, g2, g3, g4, g5⟩ := fin D4 (nI (0 + ls.length)) p4 0 r4 (by decide) k1 k2
    rw [if_pos rfl] at e5 g2
    have mm := (m03.trans (rc_rq m4)).trans g5
    simp only
    intro F G hFG
    rw [show F_X11_rule_b27 _ 2000 0 1 D3 = _ from e4, show _ = _ from e5]
    refine ⟨D5, rfl, hM.rq mm g1 g2 (fun r hr => ?_), rqm mm⟩
    show MR D5 r (if r = alN A then _ else alR A r)
    by_cases c : r = alN A
    · rw [if_pos c, c]
      obtain ⟨wf1, wf2⟩ := rlOf_wf (F := F) (G := G) hL (sbk_le (Nat.zero_le _)) ev hFG
      refine ⟨by rw [g3, Nat.zero_add]; rfl, fun cc hcc => ?_⟩
      obtain ⟨y1, y2, y3⟩ := d2 cc hcc
      rw [Nat.add_zero] at y1 y2 y3
      refine ⟨by rw [g4 34 _ (by decide) (by decide)]; exact y1, by rw [g4 35 _ (by decide) (by decide)]; exact y2, by rw [g4 36 _ (by decide) (by decide)]; exact y3, fun k hk => ?_⟩
      obtain ⟨x, _, _, _, gle, _, _⟩ := cl_at (F := F) (G := G) ls 0 cc hcc (fun i hi => by rw [Nat.zero_add]; exact hFG i hi)
      have hk' : k < eA ls 0 cc := hk
      have hkl : k < (cat ls).length := by omega
      obtain ⟨s1, s2⟩ := d3 k hkl
      rw [Nat.add_zero] at s1 s2
      obtain ⟨t1, t2⟩ := hFG k hkl
      rw [g4 31 _ (by decide) (by decide), g4 32 _ (by decide) (by decide), s1, s2]
      exact ⟨by show _ = cm (F k); rw [t1], by show _ = G k; rw [t2]⟩
    · rw [if_neg c]
      exact old mm r (by have : r < alN A + 1 := hr; omega)
theorem p_rule : Cal F_X10_rule F_X11_rule := by
  intro D A hA hC hM
  by_cases hN : alN A < 6
  · have hc := c_rule hA hN hC
    have hT := okTp hA
    have cm' : ∀ {D1 : Dt}, Sm cS D D1 → RM D1 A := fun m => hM.fr m
    cases e : pRl (taped A) 13 0 (sbk (taped A) 0) 0 with
    | inl f =>
      rw [e] at hc
      obtain ⟨D1, e1, c1, m1⟩ := hc
      have hr := r_rule hA hN (cm' m1)
      rw [e] at hr
      obtain ⟨D2, e2, r2, m2⟩ := hr
      refine ⟨_, D1, D2, _, e1, e2, ?_, c1.fr m2, r2⟩
      obtain ⟨h1, h2, h3, h4, h5, h6⟩ := hA
      exact ⟨h1, h2, h3, h4, Nat.zero_le _, h6⟩
    | inr ls =>
      rw [e] at hc
      obtain ⟨D1, F, G, e1, hFG, c1, m1⟩ := hc
      have hr := r_rule hA hN (cm' m1)
      rw [e] at hr
      obtain ⟨D2, e2, r2, m2⟩ := hr F G hFG
      refine ⟨_, D1, D2, _, e1, e2, ?_, c1.fr m2, r2⟩
      obtain ⟨h1, h2, h3, h4, h5, h6⟩ := hA
      have up : ∀ {W : Wo}, okW W (alN A) → okW W (alN A + 1) := fun {W} o => by
        obtain ⟨o1, o2, o3, o4, o5, o6, o7, o8, o9, o10, o11⟩ := o
        refine ⟨o1, o2, o3, o4, o5, o6, o7, o8, o9, ?_, o11⟩
        rcases o10 with x | ⟨r, hr, x⟩
        · exact Or.inl x
        · exact Or.inr ⟨r, by omega, x⟩
      refine ⟨up h1, fun k W hk hW => up (h2 k W hk hW), by show alN A + 1 ≤ 6; omega, fun r hr => ?_, Nat.zero_le _, h6⟩
      show RWf (if r = alN A then _ else alR A r)
      by_cases c : r = alN A
      · rw [if_pos c]
        exact rlOf_wf hT.1 (sbk_le (Nat.zero_le _)) e hFG
      · rw [if_neg c]
        exact h4 r (by have : r < alN A + 1 := hr; omega)
  · have h6 : alN A = 6 := by have := hA.2.2.1; omega
    have a5 : D.1 (10, 0, 0, 0) 5 = nI (alN A) := hC.2.2.2.2.1
    have a23 : D.1 (11, 0, 0, 0) 23 = nI (alN A) := hM.2.2.2.1
    refine ⟨-1, D, D, A, ?_, ?_, hA, hC, hM⟩
    · rw [F_X10_rule, a5, h6, if_neg (by decide)]
    · rw [F_X11_rule, a23, h6, if_pos (by decide)]
