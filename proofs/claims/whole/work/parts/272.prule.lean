def RlO (T : Tp) (s cl n : Nat) (D : Dt) (ls : List Cl2) (D' : Dt) : Prop := (∃ p, RP D' T p 0) ∧ (∀ c, c < ls.length → D'.1 (11, 0, 34, 0) (12 * s + cl + c) = nI (sA ls n c) ∧ D'.1 (11, 0, 35, 0) (12 * s + cl + c) = nI (tA ls n c) ∧ D'.1 (11, 0, 36, 0) (12 * s + cl + c) = nI (eA ls n c)) ∧ SgM D' (300 * s + n) (cat ls) ∧ Sm (rcS (300 * s + n) (12 * s + cl)) D D'
def RlC (T : Tp) (s cl n : Nat) (D : Dt) (x : Nat ⊕ List Cl2) (kk : Int32 → Dt → Option (Int32 × Dt)) (res : Option (Int32 × Dt)) : Prop := match x with
  | .inl f => ∃ D' p v, res = kk v D' ∧ RP D' T p (nI f) ∧ 0 < f ∧ f < 100000 ∧ Sm (rcS (300 * s + n) (12 * s + cl)) D D'
  | .inr ls => ∃ D', res = kk (nI (cl + ls.length)) D' ∧ RlO T s cl n D ls D'
theorem r_rLoop {T : Tp} {s : Nat} {kk : Int32 → Dt → Option (Int32 × Dt)} (hT : okT T) (hs : s < 6) : ∀ m fu cl p c n D, cl + m = 13 → m + 1 < fu → (m = 0 → False) → p ≤ tpL T → c ≤ 60 → 3 * n ≤ 6 * c + sbk T p → RSt D T s p 0 c n → D.1 (11, 0, 0, 0) 25 = 0 → RlC T s cl n D (pRl T m cl (sbk T p) c) kk (F_X11_rule_b27 kk fu (nI cl) 1 D) := by
  have hL := hT.1
  intro m
  induction m with
  | zero => intros; exact absurd rfl (by assumption)
  | succ m ih =>
    intro fu cl p c n D hcl hf _ hp hc hb h h25
    obtain ⟨fu, rfl⟩ : ∃ g, fu = g + 2 := ⟨fu - 2, by omega⟩
    have hC := r_rClause (cl := cl) hT hs (by omega) hp hc hb h h25
    have hq := sbk_le hp
    obtain ⟨gd1, gd2⟩ := pCl_gd (cl := cl) hL hq hc
    rw [show fu + 2 = (fu + 1) + 1 from rfl, F_X11_rule_b27, if_neg (show ¬ (1 : Int32) = 0 by decide), pRl]
    cases ev : pCl T cl (sbk T p) c with
    | inl f =>
      rw [ev] at hC
      obtain ⟨D1, p1, e1, r1, a1, a2, a3, m1⟩ := hC
      have hne : ¬ nI f = 0 := nI_ne0 (by omega) (by omega)
      obtain ⟨D2, e2, r2, m2⟩ := r_goesOn hT (by omega) r1
      rw [if_neg (fun x => hne x.1)] at e2
      rw [if_neg (fun x => hne x.1)] at r2
      rw [e1, vbd_s, bnd_e, e2, cbd_s, F_X11_rule_b27, if_pos rfl]
      exact ⟨D2, _, _, rfl, r2, a2, a3, m1.trans (rx_rc (rr_rx (p21_rr m2)))⟩
    | inr y =>
      obtain ⟨q1, c1, l1, l2⟩ := y
      obtain ⟨b1, b2, b3, b4, b5, b6, _, _, _⟩ := gd2 q1 c1 l1 l2 ev
      rw [ev] at hC
      obtain ⟨D1, p1, e1, r1, d2, d3, d4, d5, d6, d7, d8, m1⟩ := hC
      obtain ⟨D2, e2, r2, m2⟩ := r_goesOn hT (by omega) r1.1
      rw [d2] at e2 r2
      have mm2 : Sm (rcS (300 * s + n) (12 * s + cl)) D1 D2 := rx_rc (rr_rx (p21_rr m2))
      have z : ∀ q k, q ≠ 0 → D2.1 (11, 0, q, 0) k = D1.1 (11, 0, q, 0) k := fun q k hq => p21_15 m2 q k hq
      have s1 : SgM D2 (300 * s + n) (l1 ++ l2) := fun i hi => by rw [z 31 _ (by decide), z 32 _ (by decide)]; exact d4 i hi
      rw [e1, vbd_s, bnd_e, nI_1, e2, cbd_s]
      simp only
      by_cases k0 : kd T q1 = 0
      · rw [if_neg (by omega)] at r2
        rw [if_pos k0, if_neg (by omega), F_X11_rule_b27, if_pos rfl]
        refine ⟨D2, rfl, ⟨_, r2⟩, fun c hc => ?_, ?_, m1.trans mm2⟩
        · have : c = 0 := by simp only [List.length_cons, List.length_nil] at hc; omega
          subst this
          rw [Nat.add_zero, z 34 _ (by decide), z 35 _ (by decide), z 36 _ (by decide)]
          exact ⟨d6, d7, d8⟩
        · simp only [cat, List.append_nil]
          exact s1
      · rw [if_neg k0]
        by_cases k4 : kd T q1 = 4
        · have hlt := kd_lt (T := T) (q := q1) (by omega)
          obtain ⟨g1, g2⟩ := nq_gt hlt
          have hnx : nx T q1 = q1 + 1 := kd_c1 (c := 59) hT rfl (by decide) (by decide) (by decide) (by decide) k4
          have hsb : sbk T (q1 + 1) = nq T q1 := by unfold nq; rw [hnx]
          rw [if_neg (fun x => x.2.2 k4)] at r2
          have h2 := r1.p r2 m2
          rw [if_pos k4, if_pos ⟨trivial, k4⟩]
          have hI := ih (fu + 1) (cl + 1) (q1 + 1) c1 (n + (l1 ++ l2).length) D2 (by omega) (by omega) (by omega) (by omega) b5 (by rw [hsb]; omega) h2 (by rw [m2.i (by simp [p21])]; exact d5)
          rw [hsb] at hI
          cases ev2 : pRl T m (cl + 1) (nq T q1) c1 with
          | inl f =>
            rw [ev2] at hI
            obtain ⟨D3, p3, v, e3, r3, a1, a2, m3⟩ := hI
            exact ⟨D3, p3, v, e3, r3, a1, a2, (m1.trans mm2).trans (rc_w (by omega) (by omega) m3)⟩
          | inr ls =>
            rw [ev2] at hI
            obtain ⟨D3, e3, f1, f2, f3, m3⟩ := hI
            have low : ∀ q, q = 34 ∨ q = 35 ∨ q = 36 → D3.1 (11, 0, q, 0) (12 * s + cl) = D1.1 (11, 0, q, 0) (12 * s + cl) := fun q hq => by
              rw [m3.i (by rcases hq with rfl | rfl | rfl <;> simp [rcS, rxS, rrS, skT])]
              exact z q _ (by omega)
            refine ⟨D3, ?_, f1, fun c hc => ?_, ?_, (m1.trans mm2).trans (rc_w (by omega) (by omega) m3)⟩
            · rw [e3]
              congr 2
              simp only [List.length_cons]
              omega
            · cases c with
              | zero =>
                rw [Nat.add_zero, low 34 (Or.inl rfl), low 35 (Or.inr (Or.inl rfl)), low 36 (Or.inr (Or.inr rfl))]
                exact ⟨d6, d7, d8⟩
              | succ c =>
                have := f2 c (by simp only [List.length_cons] at hc; omega)
                rw [show 12 * s + (cl + 1) + c = 12 * s + cl + (c + 1) by omega] at this
                exact this
            · refine SgM.app (fun i hi => ?_) (by rw [Nat.add_assoc]; exact f3)
              have hi' : i < l1.length + l2.length := by rw [← List.length_append]; exact hi
              rw [m3.i (by simp [rcS, rxS, rrS, skT]; omega), m3.i (by simp [rcS, rxS, rrS, skT]; omega)]
              exact s1 i hi
        · rw [if_pos ⟨rfl, k0, k4⟩] at r2
          rw [if_neg k4, if_neg (fun x => k4 x.2), F_X11_rule_b27, if_pos rfl]
          exact ⟨D2, _, _, rfl, r2, by omega, by omega, m1.trans mm2⟩
theorem rc_m {b j : Nat} {D D' : Dt} (s : Sm (rcS b j) D D') : Sm mS D D' := s.mono (fun la k e => by
  simp only [mS, beq_eq_false_iff_ne] at e
  simp only [rcS, rxS, rrS, skT, Bool.or_eq_false_iff, Bool.and_eq_false_iff, beq_eq_false_iff_ne]
  have h : ∀ q, la ≠ (11, 0, q, 0) := fun q x => e (by rw [x])
  exact ⟨⟨⟨Or.inl (h 0), Or.inl ⟨h 31, h 32⟩⟩, Or.inl (h 0), h 37⟩, Or.inl ⟨⟨h 34, h 35⟩, h 36⟩⟩)
