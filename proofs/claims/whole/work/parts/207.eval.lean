/-! ===== the stack of either ===== -/
def SR (f : Nat → Int64) (st : List Int64) : Prop := ∀ i, i < st.length → f i = st.getD (st.length - 1 - i) 0
theorem SR_nil {f : Nat → Int64} : SR f [] := fun i h => absurd h (Nat.not_lt_zero i)
theorem SR_push {f f' : Nat → Int64} {st : List Int64} {v : Int64} (h : SR f st) (h1 : f' st.length = v) (h2 : ∀ i, i < st.length → f' i = f i) : SR f' (v :: st) := by
  intro i hi
  simp only [List.length_cons] at hi ⊢
  by_cases c : i = st.length
  · subst c
    rw [h1, show st.length + 1 - 1 - st.length = 0 by omega]
    rfl
  · rw [h2 i (by omega), h i (by omega), show st.length + 1 - 1 - i = (st.length - 1 - i) + 1 by omega]
    rfl
theorem SR_tail {f : Nat → Int64} {st : List Int64} {v : Int64} (h : SR f (v :: st)) : SR f st := by
  intro i hi
  rw [h i (by simp only [List.length_cons]; omega)]
  simp only [List.length_cons]
  rw [show st.length + 1 - 1 - i = (st.length - 1 - i) + 1 by omega]
  rfl
theorem SR_top {f : Nat → Int64} {st : List Int64} {v : Int64} (h : SR f (v :: st)) : f st.length = v := by
  rw [h st.length (by simp only [List.length_cons]; omega)]
  simp only [List.length_cons]
  rw [show st.length + 1 - 1 - st.length = 0 by omega]
  rfl
def SmL (la : LA) (D D' : Dt) : Prop := D'.1 = D.1 ∧ D'.2.2 = D.2.2 ∧ ∀ l, l ≠ la → D'.2.1 l = D.2.1 l
theorem SmL.refl {la : LA} {D : Dt} : SmL la D D := ⟨rfl, rfl, fun _ _ => rfl⟩
theorem SmL.trans {la : LA} {D D1 D2 : Dt} (h : SmL la D D1) (g : SmL la D1 D2) : SmL la D D2 := ⟨g.1.trans h.1, g.2.1.trans h.2.1, fun l e => (g.2.2 l e).trans (h.2.2 l e)⟩
theorem SmL.set {la : LA} {D : Dt} {k : Nat} {v : Int64} : SmL la D (setL D la k v) := by
  refine ⟨rfl, rfl, fun l e => ?_⟩
  funext j
  rw [gL, if_neg (fun h => e h.1)]
theorem gL_s {D : Dt} {la : LA} {k : Nat} {v : Int64} : (setL D la k v).2.1 la k = v := by rw [gL, if_pos ⟨rfl, rfl⟩]
theorem gL_n {D : Dt} {la : LA} {k j : Nat} {v : Int64} (h : j ≠ k) : (setL D la k v).2.1 la j = D.2.1 la j := by rw [gL, if_neg (fun e => h e.2)]
theorem ty1_cases {e : Int32 × Int32} {ts t : List Bool} (h : ty1 e ts = some t) : e.1 = 1 ∨ (e.1 = 20 ∧ inB e.2 12 = true) ∨ (e.1 = 35 ∧ ∃ r, ts = true :: r) ∨ (∃ b a r, ts = b :: a :: r ∧ (isAr e.1 = true ∨ isCp e.1 = true ∨ isLg e.1 = true)) := by
  unfold ty1 at h
  by_cases c1 : e.1 = 1
  · exact Or.inl c1
  rw [if_neg c1] at h
  by_cases c2 : e.1 = 20
  · rw [if_pos c2] at h
    by_cases c3 : inB e.2 12 = true
    · exact Or.inr (Or.inl ⟨c2, c3⟩)
    · rw [if_neg c3] at h
      cases h
  rw [if_neg c2] at h
  match ts with
  | [] => cases h
  | [b] =>
    simp only at h
    by_cases c3 : e.1 = 35 ∧ b = true
    · exact Or.inr (Or.inr (Or.inl ⟨c3.1, [], by rw [c3.2]⟩))
    · rw [if_neg c3] at h
      cases h
  | b :: a :: r =>
    simp only at h
    by_cases c3 : e.1 = 35
    · rw [if_pos c3] at h
      by_cases c4 : b = true
      · exact Or.inr (Or.inr (Or.inl ⟨c3, a :: r, by rw [c4]⟩))
      · rw [if_neg c4] at h
        cases h
    · rw [if_neg c3] at h
      refine Or.inr (Or.inr (Or.inr ⟨b, a, r, rfl, ?_⟩))
      by_cases c4 : isAr e.1 = true
      · exact Or.inl c4
      · rw [if_neg c4] at h
        by_cases c5 : isCp e.1 = true
        · exact Or.inr (Or.inl c5)
        · rw [if_neg c5] at h
          by_cases c6 : isLg e.1 = true ∧ a = true ∧ b = true
          · exact Or.inr (Or.inr c6.1)
          · rw [if_neg c6] at h
            cases h
theorem bin_ne {op : Int32} (h : isAr op = true ∨ isCp op = true ∨ isLg op = true) : op ≠ 1 ∧ op ≠ 20 ∧ op ≠ 35 ∧ cm op ≠ 0 ∧ cm op ≠ 1 ∧ cm op ≠ 9 := by
  simp only [isAr, isCp, isLg, decide_eq_true_eq] at h
  rcases h with (rfl | rfl | rfl | rfl | rfl) | (rfl | rfl | rfl | rfl | rfl) | (rfl | rfl) <;> decide
theorem ev1_1 {w : Nat → Int64} {e : Int32 × Int32} {st : List Int64} (h : e.1 = 1) : ev1 w e st = e.2.toInt64 :: st := by
  unfold ev1
  rw [if_pos h]
theorem ev1_20 {w : Nat → Int64} {e : Int32 × Int32} {st : List Int64} (h : e.1 = 20) : ev1 w e st = w e.2.toNatClampNeg :: st := by
  unfold ev1
  rw [if_neg (by rw [h]; decide), if_pos h]
theorem ev1_35 {w : Nat → Int64} {e : Int32 × Int32} {st : List Int64} {b : Int64} (h : e.1 = 35) : ev1 w e (b :: st) = (1 - b) :: st := by
  unfold ev1
  rw [if_neg (by rw [h]; decide), if_neg (by rw [h]; decide)]
  cases st with
  | nil => simp only [if_pos h]
  | cons a r => simp only [if_pos h]
theorem ev1_bin {w : Nat → Int64} {e : Int32 × Int32} {st : List Int64} {a b : Int64} (h : isAr e.1 = true ∨ isCp e.1 = true ∨ isLg e.1 = true) : ev1 w e (b :: a :: st) = jn e.1 a b :: st := by
  obtain ⟨h1, h2, h3, -⟩ := bin_ne h
  unfold ev1
  rw [if_neg h1, if_neg h2]
  simp only [if_neg h3]
theorem len2 {st : List Int64} {n : Nat} (h : st.length = n + 1) : ∃ b r, st = b :: r ∧ r.length = n := by
  cases st with
  | nil => simp at h
  | cons b r => exact ⟨b, r, rfl, by simpa using h⟩
/-! ===== the class's stack machine ===== -/
set_option maxHeartbeats 4000000 in
theorem c_vstep {j : Nat} {a1 a2 : Int32} {a3 : LA} {kk : Int32 → Dt → Option (Int64 × Dt)} {w : Nat → Int64} {fu n lo : Nat} {st : List Int64} {ts t : List Bool} {D : Dt} (h3 : lenOf a3 = 12) (hlo : lo < 400) (hlo2 : lo < n) (hn : n ≤ 400) (hs : SR (D.2.1 (3, j, 8, 0)) st) (hl : st.length = ts.length) (hm : st.length < 62) (ht : ty1 (D.1 (3, j, 1, 0) lo, D.1 (3, j, 2, 0) lo) ts = some t) (hw : ∀ k, k < 12 → D.2.1 a3 k = w k) : ∃ D1, F_X3_valueOf_b6 j a1 a2 a3 kk (fu + 1) (nI n) (nI st.length) (nI lo) D = F_X3_valueOf_b6 j a1 a2 a3 kk fu (nI n) (nI (ev1 w (D.1 (3, j, 1, 0) lo, D.1 (3, j, 2, 0) lo) st).length) (nI (lo + 1)) D1 ∧ SR (D1.2.1 (3, j, 8, 0)) (ev1 w (D.1 (3, j, 1, 0) lo, D.1 (3, j, 2, 0) lo) st) ∧ SmL (3, j, 8, 0) D D1 := by
  rw [F_X3_valueOf_b6]
  rw [if_neg (nI_ge hlo2 (by omega)), grd_t (inBe hlo (by decide)), nIc (by omega)]
  simp only [bnd]
  rcases ty1_cases ht with c | ⟨c, c2⟩ | ⟨c, r, rfl⟩ | ⟨b, a, r, rfl, c⟩
  · simp only at c
    rw [ev1_1 (show (D.1 (3, j, 1, 0) lo, D.1 (3, j, 2, 0) lo).1 = 1 from c)]
    rw [if_pos c, if_neg (show ¬ (64 : Int32) ≤ nI st.length from nI_ge (b := 64) (by omega) (by decide)), grd_t (inBe (by omega) (by decide)), nIc (by omega)]
    simp only [F_X3_valueOf_b177, bnd, nI_1]
    refine ⟨_, rfl, SR_push hs gL_s (fun i hi => gL_n (by omega)), SmL.set⟩
  · simp only at c c2
    rw [ev1_20 (show (D.1 (3, j, 1, 0) lo, D.1 (3, j, 2, 0) lo).1 = 20 from c)]
    obtain ⟨x, hx, ex⟩ := inB_ex c2 (by decide)
    rw [if_neg (by rw [c]; decide), F_X3_valueOf_b55, if_pos c, if_neg (show ¬ (64 : Int32) ≤ nI st.length from nI_ge (b := 64) (by omega) (by decide)), grd_t (inBe hlo (by decide)), nIc (k := lo) (by omega), ex, h3]
    rw [if_neg (show ¬ Int32.ofNat 12 ≤ nI x from nI_ge hx (by decide)), grd_t (inBe hx (by decide)), grd_t (inBe (by omega) (by decide)), nIc (k := x) (by omega), nIc (by omega)]
    simp only [F_X3_valueOf_b177, bnd, nI_1]
    refine ⟨_, rfl, SR_push hs (gL_s.trans ?_) (fun i hi => gL_n (by omega)), SmL.set⟩
    exact hw x hx
  · simp only at c
    obtain ⟨v, s2, rfl, hl2⟩ := len2 (hl.trans (List.length_cons))
    rw [ev1_35 (show (D.1 (3, j, 1, 0) lo, D.1 (3, j, 2, 0) lo).1 = 35 from c)]
    have hp : (nI (v :: s2).length - 1) = nI s2.length := by rw [List.length_cons, nI_pred]
    rw [if_neg (by rw [c]; decide), F_X3_valueOf_b55, if_neg (by rw [c]; decide), F_X3_valueOf_b103, if_pos c, if_neg (show ¬ nI (v :: s2).length ≤ 0 from nI_nle (by simp) (by simp only [List.length_cons] at hm ⊢; omega)), hp]
    simp only [List.length_cons] at hm
    rw [grd_t (inBe (by omega) (by decide)), nIc (by omega)]
    simp only [F_X3_valueOf_b177, bnd, nI_1]
    refine ⟨_, rfl, SR_push (SR_tail hs) (gL_s.trans ?_) (fun i hi => gL_n (by omega)), SmL.set⟩
    rw [SR_top hs]
  · simp only at c
    obtain ⟨v, s2, rfl, hl2⟩ := len2 (hl.trans (List.length_cons))
    obtain ⟨u, s3, rfl, hl3⟩ := len2 (hl2.trans (List.length_cons))
    rw [ev1_bin (show isAr (D.1 (3, j, 1, 0) lo, D.1 (3, j, 2, 0) lo).1 = true ∨ _ from c)]
    obtain ⟨n1, n2, n3, -⟩ := bin_ne c
    simp only [List.length_cons] at hm ⊢
    have hp : nI (s3.length + 1 + 1) + (-1 : Int32) = nI (s3.length + 1) := pk_m1 _
    rw [if_neg n1, F_X3_valueOf_b55, if_neg n2, F_X3_valueOf_b103, if_neg n3, F_X3_valueOf_b138, if_neg (show ¬ nI (s3.length + 1 + 1) ≤ (1 : Int32) from nI_ge (a := 1) (by omega) (by omega)), hp]
    simp only [bnd, nI_pred]
    rw [grd_t (inBe (by omega) (by decide)), grd_t (inBe (by omega) (by decide)), c_joined, cbd_s, nIc (by omega), nIc (by omega)]
    simp only [F_X3_valueOf_b177, bnd, nI_1]
    refine ⟨_, rfl, SR_push (SR_tail (SR_tail hs)) (gL_s.trans ?_) (fun i hi => gL_n (by omega)), SmL.set⟩
    rw [SR_top (SR_tail hs), show s3.length + 1 = (u :: s3).length from rfl, SR_top hs]
theorem c_vloop {j : Nat} {a1 a2 : Int32} {a3 : LA} {kk : Int32 → Dt → Option (Int64 × Dt)} {w : Nat → Int64} (h3 : lenOf a3 = 12) (hne : a3 ≠ (3, j, 8, 0)) : ∀ (n fu lo : Nat) (st : List Int64) (ts ts' : List Bool) (D : Dt), n < fu → lo + n ≤ 400 → SR (D.2.1 (3, j, 8, 0)) st → tv st ts → ty (sg (D.1 (3, j, 1, 0)) (D.1 (3, j, 2, 0)) lo n) ts = some ts' → st.length + nv (sg (D.1 (3, j, 1, 0)) (D.1 (3, j, 2, 0)) lo n) ≤ 60 → (∀ k, k < 12 → D.2.1 a3 k = w k) → ∃ D', F_X3_valueOf_b6 j a1 a2 a3 kk fu (nI (lo + n)) (nI st.length) (nI lo) D = kk (nI (ev w (sg (D.1 (3, j, 1, 0)) (D.1 (3, j, 2, 0)) lo n) st).length) D' ∧ SR (D'.2.1 (3, j, 8, 0)) (ev w (sg (D.1 (3, j, 1, 0)) (D.1 (3, j, 2, 0)) lo n) st) ∧ SmL (3, j, 8, 0) D D' := by
  intro n
  induction n with
  | zero =>
    intro fu lo st ts ts' D hf hlo hs hl ht hb hw
    obtain ⟨fu, rfl⟩ : ∃ g, fu = g + 1 := ⟨fu - 1, by omega⟩
    refine ⟨D, ?_, hs, SmL.refl⟩
    rw [F_X3_valueOf_b6, if_pos (show nI (lo + 0) ≤ nI lo from nI_le (by omega) (by omega))]
    rfl
  | succ n ih =>
    intro fu lo st ts ts' D hf hlo hs hl ht hb hw
    obtain ⟨fu, rfl⟩ : ∃ g, fu = g + 1 := ⟨fu - 1, by omega⟩
    simp only [sg, ty, ev, nv] at ht hb ⊢
    cases h1 : ty1 (D.1 (3, j, 1, 0) lo, D.1 (3, j, 2, 0) lo) ts with
    | none => rw [h1] at ht; cases ht
    | some t =>
      rw [h1] at ht
      simp only at ht
      obtain ⟨D1, e1, s1, m1⟩ := c_vstep (a1 := a1) (a2 := a2) (kk := kk) (fu := fu) (n := lo + (n + 1)) (w := w) h3 (by omega) (by omega) hlo hs (tv_len hl) (by omega) h1 hw
      have hl1 := ev1_tv (w := w) hl h1
      have hb1 : (ev1 w (D.1 (3, j, 1, 0) lo, D.1 (3, j, 2, 0) lo) st).length + nv (sg (D.1 (3, j, 1, 0)) (D.1 (3, j, 2, 0)) (lo + 1) n) ≤ 60 := by
        have hq : (ev1 w (D.1 (3, j, 1, 0) lo, D.1 (3, j, 2, 0) lo) st).length ≤ st.length + (if D.1 (3, j, 1, 0) lo = 1 ∨ D.1 (3, j, 1, 0) lo = 20 then 1 else 0) := by
          unfold ev1
          simp only
          by_cases c1 : D.1 (3, j, 1, 0) lo = 1
          · simp [c1]
          · by_cases c2 : D.1 (3, j, 1, 0) lo = 20
            · simp [c1, c2]
            · rw [if_neg c1, if_neg c2]
              split
              · simp
              · split <;> simp
              · split <;> simp
                omega
        omega
      have m11 : D1.1 = D.1 := m1.1
      obtain ⟨D2, e2, s2, m2⟩ := ih fu (lo + 1) (ev1 w (D.1 (3, j, 1, 0) lo, D.1 (3, j, 2, 0) lo) st) t ts' D1 (by omega) (by omega) s1 hl1 (by rw [m11]; exact ht) (by rw [m11]; exact hb1) (fun k hk => by rw [m1.2.2 a3 hne]; exact hw k hk)
      refine ⟨D2, ?_, ?_, m1.trans m2⟩
      · rw [e1]
        rw [show lo + (n + 1) = lo + 1 + n by omega, e2, m11]
      · rw [m11] at s2
        exact s2
