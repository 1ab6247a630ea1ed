theorem hd_one {st : List Int64} {x : Bool} (h : tv st [x]) : ∃ v, st = [v] := by
  match st, h with
  | [v], _ => exact ⟨v, rfl⟩
theorem c_valueOf {j lo n : Nat} {a3 : LA} {w : Nat → Int64} {D : Dt} {x : Bool} (hj : V (3, j, 0, 0) = true) (ha : V a3 = true) (s3 : sh a3 = .inr (1, 12)) (hne : a3 ≠ (3, j, 8, 0)) (hlo : lo + n ≤ 400) (ht : ty (sg (D.1 (3, j, 1, 0)) (D.1 (3, j, 2, 0)) lo n) [] = some [x]) (hb : nv (sg (D.1 (3, j, 1, 0)) (D.1 (3, j, 2, 0)) lo n) ≤ 60) (hw : ∀ k, k < 12 → D.2.1 a3 k = w k) : ∃ D', F_X3_valueOf j (nI lo) (nI (lo + n)) a3 D = some ((ev w (sg (D.1 (3, j, 1, 0)) (D.1 (3, j, 2, 0)) lo n) []).headD 0, D') ∧ SmL (3, j, 8, 0) D D' := by
  have l3 : lenOf a3 = 12 := by simp only [lenOf, s3]
  rw [F_X3_valueOf, grd_t hj, grd_t ⟨ha, by rw [l3]; exact s3⟩]
  obtain ⟨D', e, s, m⟩ := c_vloop (a1 := nI lo) (a2 := nI (lo + n)) (w := w) (kk := fun l4_78 D79 => (if l4_78 ≤ 0 then (some ((0 : Int64), D79)) else (grd (inB (l4_78 - (1 : Int32)) 64 = true) (some ((D79.2.1 (3, j, 8, 0) ((l4_78 - (1 : Int32)).toNatClampNeg)), D79))))) l3 hne n 2000 lo [] [] [x] D (by omega) hlo SR_nil trivial ht (by simpa using hb) hw
  obtain ⟨v, ev⟩ := hd_one (ev_tv (w := w) (st := []) (ts := []) trivial ht)
  rw [ev] at e s ⊢
  refine ⟨D', ?_, m⟩
  refine Eq.trans e ?_
  simp only [List.length_cons, List.length_nil, List.headD_cons]
  simp only [nI_pred]
  rw [if_neg (show ¬ nI (0 + 1) ≤ 0 from nI_nle (by decide) (by decide)), grd_t (inBe (by decide) (by decide)), nIc (by decide)]
  rw [show D'.2.1 (3, j, 8, 0) 0 = v from SR_top s]
/-! ===== a RULE: how many clauses; where sum, test and end of each; signs and numbers ===== -/
abbrev Rl : Type := Nat × (Nat → Nat) × (Nat → Nat) × (Nat → Nat) × (Nat → Int32) × (Nat → Int32)
def rSum (R : Rl) (c : Nat) : List (Int32 × Int32) := sg R.2.2.2.2.1 R.2.2.2.2.2 (R.2.1 c) (R.2.2.1 c - R.2.1 c)
def rTst (R : Rl) (c : Nat) : List (Int32 × Int32) := sg R.2.2.2.2.1 R.2.2.2.2.2 (R.2.2.1 c) (R.2.2.2.1 c - R.2.2.1 c)
def RWf (R : Rl) : Prop := R.1 ≤ 12 ∧ ∀ c, c < R.1 → R.2.1 c ≤ R.2.2.1 c ∧ R.2.2.1 c ≤ R.2.2.2.1 c ∧ R.2.2.2.1 c ≤ 300 ∧ ty (rSum R c) [] = some [false] ∧ nv (rSum R c) ≤ 60 ∧ (R.2.2.1 c < R.2.2.2.1 c → ty (rTst R c) [] = some [true] ∧ nv (rTst R c) ≤ 60)
def CR (D : Dt) (j : Nat) (R : Rl) : Prop := D.1 (3, j, 0, 0) 6 = nI R.1 ∧ D.1 (3, j, 1, 0) = R.2.2.2.2.1 ∧ D.1 (3, j, 2, 0) = R.2.2.2.2.2 ∧ ∀ c, c < R.1 → D.1 (3, j, 4, 0) c = nI (R.2.1 c) ∧ D.1 (3, j, 5, 0) c = nI (R.2.2.1 c) ∧ D.1 (3, j, 6, 0) c = nI (R.2.2.2.1 c)
def MR (D : Dt) (j : Nat) (R : Rl) : Prop := D.1 (11, 0, 33, 0) j = nI R.1 ∧ ∀ c, c < R.1 → D.1 (11, 0, 34, 0) (12 * j + c) = nI (R.2.1 c) ∧ D.1 (11, 0, 35, 0) (12 * j + c) = nI (R.2.2.1 c) ∧ D.1 (11, 0, 36, 0) (12 * j + c) = nI (R.2.2.2.1 c) ∧ ∀ k, k < R.2.2.2.1 c → D.1 (11, 0, 31, 0) (300 * j + k) = cm (R.2.2.2.2.1 k) ∧ D.1 (11, 0, 32, 0) (300 * j + k) = R.2.2.2.2.2 k
def smv (R : Rl) (w : Nat → Int64) : Nat → Nat → Int64
  | 0, _ => 0
  | m + 1, c => if R.2.2.1 c = R.2.2.2.1 c ∨ (ev w (rTst R c) []).headD 0 ≠ 0 then (ev w (rSum R c) []).headD 0 else smv R w m (c + 1)
def rlv (R : Rl) (w : Nat → Int64) : Int64 := smv R w R.1 0
theorem CR.ints {D D' : Dt} {j : Nat} {R : Rl} (h : CR D j R) (e : D'.1 = D.1) : CR D' j R := by
  unfold CR
  rw [e]
  exact h
theorem c_sumLoop {j : Nat} {a3 : LA} {w : Nat → Int64} {R : Rl} (hj : V (3, j, 0, 0) = true) (ha : V a3 = true) (s3 : sh a3 = .inr (1, 12)) (hne : a3 ≠ (3, j, 8, 0)) (hR : RWf R) : ∀ (m fu c : Nat) (D : Dt), CR D j R → c + m = R.1 → m < fu → (∀ k, k < 12 → D.2.1 a3 k = w k) → ∃ D', F_X3_sumFor_b2 j a3 (fun l2_9 D10 => (grd (inB l2_9 12 = true) (cbd (F_X3_valueOf j (D10.1 (3, j, 4, 0) (l2_9.toNatClampNeg)) (D10.1 (3, j, 5, 0) (l2_9.toNatClampNeg)) a3 D10) (fun r13 D14 => (some (r13, D14)))))) fu (nI c) D = some (smv R w m c, D') ∧ SmL (3, j, 8, 0) D D' := by
  intro m
  induction m with
  | zero =>
    intro fu c D hC hc hf hw
    obtain ⟨fu, rfl⟩ : ∃ g, fu = g + 1 := ⟨fu - 1, by omega⟩
    refine ⟨D, ?_, SmL.refl⟩
    rw [F_X3_sumFor_b2, hC.1, if_pos (nI_le (by omega) (by have := hR.1; omega))]
    rfl
  | succ m ih =>
    intro fu c D hC hc hf hw
    have h12 := hR.1
    obtain ⟨fu, rfl⟩ : ∃ g, fu = g + 1 := ⟨fu - 1, by omega⟩
    obtain ⟨b1, b2, b3⟩ := hC.2.2.2 c (by omega)
    obtain ⟨w1, w2, w3, w4, w5, w6⟩ := hR.2 c (by omega)
    have fin : ∀ D1 : Dt, CR D1 j R → (∀ k, k < 12 → D1.2.1 a3 k = w k) → ∃ D', (grd (inB (nI c) 12 = true) (cbd (F_X3_valueOf j (D1.1 (3, j, 4, 0) c) (D1.1 (3, j, 5, 0) c) a3 D1) (fun r13 D14 => (some (r13, D14))))) = some ((ev w (rSum R c) []).headD 0, D') ∧ SmL (3, j, 8, 0) D1 D' := by
      intro D1 hC1 hw1
      obtain ⟨q1, q2, q3⟩ := hC1.2.2.2 c (by omega)
      rw [grd_t (inBe (by omega) (by decide)), q1, q2]
      have e : sg (D1.1 (3, j, 1, 0)) (D1.1 (3, j, 2, 0)) (R.2.1 c) (R.2.2.1 c - R.2.1 c) = rSum R c := by rw [hC1.2.1, hC1.2.2.1]; rfl
      obtain ⟨D', e1, m1⟩ := c_valueOf (D := D1) (j := j) (lo := R.2.1 c) (n := R.2.2.1 c - R.2.1 c) (w := w) hj ha s3 hne (by omega) (by rw [e]; exact w4) (by rw [e]; exact w5) hw1
      rw [show R.2.1 c + (R.2.2.1 c - R.2.1 c) = R.2.2.1 c by omega, e] at e1
      rw [e1, cbd_s]
      exact ⟨D', rfl, m1⟩
    rw [F_X3_sumFor_b2, hC.1, if_neg (nI_ge (by omega) (by omega)), grd_t (inBe (by omega) (by decide)), nIc (by omega), b2, b3]
    by_cases c1 : R.2.2.1 c = R.2.2.2.1 c
    · rw [if_pos (by rw [c1])]
      obtain ⟨D', e, m1⟩ := fin D hC hw
      refine ⟨D', ?_, m1⟩
      rw [show smv R w (m + 1) c = (ev w (rSum R c) []).headD 0 by rw [smv, if_pos (Or.inl c1)]]
      rw [b2] at e
      exact e
    · rw [if_neg (by rw [nI_eq (by omega) (by omega)]; exact c1)]
      obtain ⟨w7, w8⟩ := w6 (by omega)
      have e : sg (D.1 (3, j, 1, 0)) (D.1 (3, j, 2, 0)) (R.2.2.1 c) (R.2.2.2.1 c - R.2.2.1 c) = rTst R c := by rw [hC.2.1, hC.2.2.1]; rfl
      obtain ⟨D1, e1, m1⟩ := c_valueOf (D := D) (j := j) (lo := R.2.2.1 c) (n := R.2.2.2.1 c - R.2.2.1 c) (w := w) hj ha s3 hne (by omega) (by rw [e]; exact w7) (by rw [e]; exact w8) hw
      rw [show R.2.2.1 c + (R.2.2.2.1 c - R.2.2.1 c) = R.2.2.2.1 c by omega, e] at e1
      rw [e1, cbd_s]
      simp only [lg_cmp_eq]
      have hC1 := hC.ints m1.1
      have hw1 : ∀ k, k < 12 → D1.2.1 a3 k = w k := fun k hk => by rw [m1.2.2 a3 hne]; exact hw k hk
      by_cases c2 : (ev w (rTst R c) []).headD 0 = 0
      · rw [if_pos c2]
        simp only [bnd, nI_1]
        obtain ⟨D2, e2, m2⟩ := ih fu (c + 1) D1 hC1 (by omega) (by omega) hw1
        refine ⟨D2, ?_, m1.trans m2⟩
        rw [e2, show smv R w (m + 1) c = smv R w m (c + 1) by rw [smv, if_neg (fun h => h.elim c1 (fun h => h c2))]]
      · rw [if_neg c2]
        obtain ⟨D', e, m2⟩ := fin D1 hC1 hw1
        refine ⟨D', ?_, m1.trans m2⟩
        rw [show smv R w (m + 1) c = (ev w (rSum R c) []).headD 0 by rw [smv, if_pos (Or.inr c2)]]
        exact e
theorem c_sumFor {j : Nat} {a3 : LA} {w : Nat → Int64} {R : Rl} {D : Dt} (hj : V (3, j, 0, 0) = true) (ha : V a3 = true) (s3 : sh a3 = .inr (1, 12)) (hne : a3 ≠ (3, j, 8, 0)) (hR : RWf R) (hC : CR D j R) (hw : ∀ k, k < 12 → D.2.1 a3 k = w k) : ∃ D', F_X3_sumFor j a3 D = some (rlv R w, D') ∧ SmL (3, j, 8, 0) D D' := by
  have l3 : lenOf a3 = 12 := by simp only [lenOf, s3]
  rw [F_X3_sumFor, grd_t hj, grd_t ⟨ha, by rw [l3]; exact s3⟩]
  have h12 := hR.1
  exact c_sumLoop hj ha s3 hne hR R.1 2000 0 D hC (by omega) (by omega) hw
/-! ===== the reference's stack machine ===== -/
set_option maxHeartbeats 4000000 in
theorem r_vstep {r : Nat} {a1 a2 a3 : Int32} {w : Nat → Int64} {fu n lo : Nat} {st : List Int64} {ts t : List Bool} {D : Dt} {op v : Int32} (hr : r < 6) (hlo2 : lo < n) (hn : n ≤ 300) (hs : SR (D.2.1 (11, 0, 39, 0)) st) (hl : st.length = ts.length) (hm : st.length < 62) (ho : D.1 (11, 0, 31, 0) (300 * r + lo) = cm op) (hv : D.1 (11, 0, 32, 0) (300 * r + lo) = v) (ht : ty1 (op, v) ts = some t) (hw : ∀ k, k < 12 → D.2.1 (11, 0, 38, 0) k = w k) : ∃ D1, F_X11_answer_b6 a1 a2 a3 (fu + 1) (nI r) (nI n) (nI st.length) (nI lo) D = F_X11_answer_b6 a1 a2 a3 fu (nI r) (nI n) (nI (ev1 w (op, v) st).length) (nI (lo + 1)) D1 ∧ SR (D1.2.1 (11, 0, 39, 0)) (ev1 w (op, v) st) ∧ SmL (11, 0, 39, 0) D D1 := by
  have hx : (300 : Int32) * nI r + nI lo = nI (300 * r + lo) := by rw [show (300 : Int32) = nI 300 from rfl, pk_mul, nI_add]
  rw [F_X11_answer_b6, hx]
  rw [if_neg (nI_ge hlo2 (by omega)), grd_t (inBe (by omega) (by decide)), nIc (by omega), ho, hv]
  simp only [bnd_e]
  rcases ty1_cases ht with c | ⟨c, c2⟩ | ⟨c, r', rfl⟩ | ⟨b, a, r', rfl, c⟩
  · simp only at c
    subst c
    rw [ev1_1 (show ((1 : Int32), v).1 = 1 from rfl), if_pos (show cm 1 = 0 by decide)]
    simp only [F_X11_answer_b53, if_pos (show cm 1 = 0 by decide), F_X11_answer_b77]
    rw [grd_t (inBe (by omega) (by decide)), nIc (by omega)]
    simp only [F_X11_answer_b147, bnd_e, nI_1]
    exact ⟨_, rfl, SR_push hs gL_s (fun i hi => gL_n (by omega)), SmL.set⟩
  · simp only at c c2
    subst c
    obtain ⟨x, hx, ex⟩ := inB_ex c2 (by decide)
    subst ex
    rw [ev1_20 (show ((20 : Int32), nI x).1 = 20 from rfl), if_neg (show ¬ cm 20 = 0 by decide), if_pos (show cm 20 = 1 by decide)]
    simp only [F_X11_answer_b53, if_neg (show ¬ cm 20 = 0 by decide), F_X11_answer_b77]
    rw [grd_t (inBe hx (by decide)), grd_t (inBe (by omega) (by decide)), nIc (by omega), nIc (by omega)]
    simp only [F_X11_answer_b147, bnd_e, nI_1]
    refine ⟨_, rfl, SR_push hs (gL_s.trans ?_) (fun i hi => gL_n (by omega)), SmL.set⟩
    exact hw x hx
  · simp only at c
    subst c
    obtain ⟨u, s2, rfl, hl2⟩ := len2 (hl.trans (List.length_cons))
    rw [ev1_35 (show ((35 : Int32), v).1 = 35 from rfl), if_neg (show ¬ cm 35 = 0 by decide), if_neg (show ¬ cm 35 = 1 by decide), if_pos (show cm 35 = 9 by decide)]
    simp only [List.length_cons] at hm ⊢
    simp only [nI_pred]
    rw [grd_t (inBe (by omega) (by decide)), nIc (by omega)]
    simp only [F_X11_answer_b147, bnd_e, nI_1]
    refine ⟨_, rfl, SR_push (SR_tail hs) (gL_s.trans ?_) (fun i hi => gL_n (by omega)), SmL.set⟩
    rw [SR_top hs]
  · simp only at c
    obtain ⟨v1, s2, rfl, hl2⟩ := len2 (hl.trans (List.length_cons))
    obtain ⟨u, s3, rfl, hl3⟩ := len2 (hl2.trans (List.length_cons))
    rw [ev1_bin (show isAr (op, v).1 = true ∨ _ from c)]
    obtain ⟨-, -, -, n1, n2, n3⟩ := bin_ne c
    simp only [List.length_cons] at hm ⊢
    have hp : nI (s3.length + 1 + 1) + (-1 : Int32) = nI (s3.length + 1) := pk_m1 _
    rw [if_neg n1, if_neg n2, if_neg n3]
    simp only [bnd_e, hp, nI_pred]
    rw [grd_t (inBe (by omega) (by decide)), grd_t (inBe (by omega) (by decide)), r_both c, cbd_s, nIc (by omega), nIc (by omega)]
    simp only [F_X11_answer_b147, bnd_e, nI_1]
    refine ⟨_, rfl, SR_push (SR_tail (SR_tail hs)) (gL_s.trans ?_) (fun i hi => gL_n (by omega)), SmL.set⟩
    rw [SR_top (SR_tail hs), show s3.length + 1 = (u :: s3).length from rfl, SR_top hs]
theorem ev1_len {w : Nat → Int64} {e : Int32 × Int32} {st : List Int64} : (ev1 w e st).length ≤ st.length + (if e.1 = 1 ∨ e.1 = 20 then 1 else 0) := by
  unfold ev1
  by_cases c1 : e.1 = 1
  · simp [c1]
  · by_cases c2 : e.1 = 20
    · simp [c2]
    · rw [if_neg c1, if_neg c2]
      split
      · simp
      · split <;> simp
      · split <;> simp
        omega
theorem r_vloop {r : Nat} {a1 a2 a3 : Int32} {w : Nat → Int64} {f g : Nat → Int32} (hr : r < 6) : ∀ (n fu lo : Nat) (st : List Int64) (ts ts' : List Bool) (D : Dt), n < fu → lo + n ≤ 300 → SR (D.2.1 (11, 0, 39, 0)) st → tv st ts → ty (sg f g lo n) ts = some ts' → st.length + nv (sg f g lo n) ≤ 60 → (∀ k, k < lo + n → D.1 (11, 0, 31, 0) (300 * r + k) = cm (f k) ∧ D.1 (11, 0, 32, 0) (300 * r + k) = g k) → (∀ k, k < 12 → D.2.1 (11, 0, 38, 0) k = w k) → ∃ D', F_X11_answer_b6 a1 a2 a3 fu (nI r) (nI (lo + n)) (nI st.length) (nI lo) D = some (D'.2.1 (11, 0, 39, 0) 0, D') ∧ SR (D'.2.1 (11, 0, 39, 0)) (ev w (sg f g lo n) st) ∧ SmL (11, 0, 39, 0) D D' := by
  intro n
  induction n with
  | zero =>
    intro fu lo st ts ts' D hf hlo hs hl ht hb hq hw
    obtain ⟨fu, rfl⟩ : ∃ g, fu = g + 1 := ⟨fu - 1, by omega⟩
    refine ⟨D, ?_, hs, SmL.refl⟩
    rw [F_X11_answer_b6, if_pos (show nI (lo + 0) ≤ nI lo from nI_le (by omega) (by omega))]
  | succ n ih =>
    intro fu lo st ts ts' D hf hlo hs hl ht hb hq hw
    obtain ⟨fu, rfl⟩ : ∃ g, fu = g + 1 := ⟨fu - 1, by omega⟩
    simp only [sg, ty, ev, nv] at ht hb ⊢
    cases h1 : ty1 (f lo, g lo) ts with
    | none => rw [h1] at ht; cases ht
    | some t =>
      rw [h1] at ht
      simp only at ht
      obtain ⟨q1, q2⟩ := hq lo (by omega)
      obtain ⟨D1, e1, s1, m1⟩ := r_vstep (a1 := a1) (a2 := a2) (a3 := a3) (fu := fu) (n := lo + (n + 1)) (w := w) hr (by omega) hlo hs (tv_len hl) (by omega) q1 q2 h1 hw
      have hl1 := ev1_tv (w := w) hl h1
      have hb1 := ev1_len (w := w) (e := (f lo, g lo)) (st := st)
      simp only at hb1
      obtain ⟨D2, e2, s2, m2⟩ := ih fu (lo + 1) (ev1 w (f lo, g lo) st) t ts' D1 (by omega) (by omega) s1 hl1 ht (by omega) (fun k hk => by rw [m1.1]; exact hq k (by omega)) (fun k hk => by rw [m1.2.2 _ (by decide)]; exact hw k hk)
      refine ⟨D2, ?_, s2, m1.trans m2⟩
      rw [e1, show lo + (n + 1) = lo + 1 + n by omega, e2]
theorem r_answer {r lo n : Nat} {w : Nat → Int64} {f g : Nat → Int32} {x : Bool} {D : Dt} (hr : r < 6) (hlo : lo + n ≤ 300) (ht : ty (sg f g lo n) [] = some [x]) (hb : nv (sg f g lo n) ≤ 60) (hq : ∀ k, k < lo + n → D.1 (11, 0, 31, 0) (300 * r + k) = cm (f k) ∧ D.1 (11, 0, 32, 0) (300 * r + k) = g k) (hw : ∀ k, k < 12 → D.2.1 (11, 0, 38, 0) k = w k) : ∃ D', F_X11_answer (nI r) (nI lo) (nI (lo + n)) D = some ((ev w (sg f g lo n) []).headD 0, D') ∧ SmL (11, 0, 39, 0) D D' := by
  obtain ⟨D', e, s, m⟩ := r_vloop (a1 := nI r) (a2 := nI lo) (a3 := nI (lo + n)) (w := w) hr n 2000 lo [] [] [x] D (by omega) hlo SR_nil trivial ht (by simpa using hb) hq hw
  obtain ⟨v, ev⟩ := hd_one (ev_tv (w := w) (st := []) (ts := []) trivial ht)
  rw [ev] at s ⊢
  refine ⟨D', ?_, m⟩
  refine Eq.trans e ?_
  rw [show D'.2.1 (11, 0, 39, 0) 0 = v from SR_top s]
  rfl
theorem r_wantLoop {r : Nat} {w : Nat → Int64} {R : Rl} (hr : r < 6) (hR : RWf R) : ∀ (m fu c : Nat) (D : Dt), MR D r R → c + m = R.1 → m < fu → (∀ k, k < 12 → D.2.1 (11, 0, 38, 0) k = w k) → ∃ D', F_X11_wanted_b13 (fun l1_12 l2_13 D14 => (grd (inB l2_13 72 = true) (cbd (F_X11_answer l1_12 (D14.1 (11, 0, 34, 0) (l2_13.toNatClampNeg)) (D14.1 (11, 0, 35, 0) (l2_13.toNatClampNeg)) D14) (fun r17 D18 => (some (r17, D18)))))) fu (nI r) (nI (12 * r + c)) D = some (smv R w m c, D') ∧ SmL (11, 0, 39, 0) D D' := by
  have hx : (12 : Int32) * nI r = nI (12 * r) := by rw [show (12 : Int32) = nI 12 from rfl, pk_mul]
  intro m
  induction m with
  | zero =>
    intro fu c D hC hc hf hw
    obtain ⟨fu, rfl⟩ : ∃ g, fu = g + 1 := ⟨fu - 1, by omega⟩
    have h12 := hR.1
    refine ⟨D, ?_, SmL.refl⟩
    rw [F_X11_wanted_b13, grd_t (inBe hr (by decide)), nIc (by omega), hC.1, hx, nI_add, if_pos (nI_le (by omega) (by omega))]
    rfl
  | succ m ih =>
    intro fu c D hC hc hf hw
    have h12 := hR.1
    obtain ⟨fu, rfl⟩ : ∃ g, fu = g + 1 := ⟨fu - 1, by omega⟩
    obtain ⟨b1, b2, b3, b4⟩ := hC.2 c (by omega)
    obtain ⟨w1, w2, w3, w4, w5, w6⟩ := hR.2 c (by omega)
    have fin : ∀ D1 : Dt, MR D1 r R → (∀ k, k < 12 → D1.2.1 (11, 0, 38, 0) k = w k) → ∃ D', (grd (inB (nI (12 * r + c)) 72 = true) (cbd (F_X11_answer (nI r) (D1.1 (11, 0, 34, 0) (12 * r + c)) (D1.1 (11, 0, 35, 0) (12 * r + c)) D1) (fun r17 D18 => (some (r17, D18))))) = some ((ev w (rSum R c) []).headD 0, D') ∧ SmL (11, 0, 39, 0) D1 D' := by
      intro D1 hC1 hw1
      obtain ⟨q1, q2, q3, q4⟩ := hC1.2 c (by omega)
      rw [grd_t (inBe (by omega) (by decide)), q1, q2]
      obtain ⟨D', e1, m1⟩ := r_answer (D := D1) (r := r) (lo := R.2.1 c) (n := R.2.2.1 c - R.2.1 c) (w := w) hr (by omega) w4 w5 (fun k hk => q4 k (by omega)) hw1
      rw [show R.2.1 c + (R.2.2.1 c - R.2.1 c) = R.2.2.1 c by omega] at e1
      rw [e1, cbd_s]
      exact ⟨D', rfl, m1⟩
    rw [F_X11_wanted_b13, grd_t (inBe hr (by decide)), nIc (k := r) (by omega), hC.1, hx, nI_add, if_neg (nI_ge (by omega) (by omega)), grd_t (inBe (by omega) (by decide)), nIc (by omega), b2, b3]
    by_cases c1 : R.2.2.1 c = R.2.2.2.1 c
    · rw [if_pos (by rw [c1])]
      obtain ⟨D', e, m1⟩ := fin D hC hw
      refine ⟨D', ?_, m1⟩
      rw [show smv R w (m + 1) c = (ev w (rSum R c) []).headD 0 by rw [smv, if_pos (Or.inl c1)]]
      rw [b2] at e
      exact e
    · rw [if_neg (by rw [nI_eq (by omega) (by omega)]; exact c1)]
      obtain ⟨w7, w8⟩ := w6 (by omega)
      obtain ⟨D1, e1, m1⟩ := r_answer (D := D) (r := r) (lo := R.2.2.1 c) (n := R.2.2.2.1 c - R.2.2.1 c) (w := w) hr (by omega) w7 w8 (fun k hk => b4 k (by omega)) hw
      rw [show R.2.2.1 c + (R.2.2.2.1 c - R.2.2.1 c) = R.2.2.2.1 c by omega] at e1
      have e1' : F_X11_answer (nI r) (nI (R.2.2.1 c)) (nI (R.2.2.2.1 c)) D = some ((ev w (rTst R c) []).headD 0, D1) := e1
      rw [e1', cbd_s]
      simp only [lg_cmp_eq]
      have hC1 : MR D1 r R := by unfold MR; rw [m1.1]; exact hC
      have hw1 : ∀ k, k < 12 → D1.2.1 (11, 0, 38, 0) k = w k := fun k hk => by rw [m1.2.2 _ (by decide)]; exact hw k hk
      have h01 : (ev w (rTst R c) []).headD 0 = 0 ∨ (ev w (rTst R c) []).headD 0 = 1 := by
        have ht := ev_tv (w := w) (st := []) (ts := []) trivial w7
        obtain ⟨v, hv⟩ := hd_one ht
        rw [hv] at ht ⊢
        exact ht.1 rfl
      by_cases c2 : (ev w (rTst R c) []).headD 0 = 0
      · rw [c2, if_neg (by decide)]
        simp only [bnd, nI_1]
        obtain ⟨D2, e2, m2⟩ := ih fu (c + 1) D1 hC1 (by omega) (by omega) hw1
        refine ⟨D2, ?_, m1.trans m2⟩
        rw [show 12 * r + c + 1 = 12 * r + (c + 1) by omega, e2, show smv R w (m + 1) c = smv R w m (c + 1) by rw [smv, if_neg (fun h => h.elim c1 (fun h => h c2))]]
      · rw [if_pos (h01.resolve_left c2)]
        obtain ⟨D', e, m2⟩ := fin D1 hC1 hw1
        refine ⟨D', ?_, m1.trans m2⟩
        rw [show smv R w (m + 1) c = (ev w (rSum R c) []).headD 0 by rw [smv, if_pos (Or.inr c2)]]
        exact e
theorem r_wanted {r : Nat} {w : Nat → Int64} {R : Rl} {D : Dt} (hr : r < 6) (hR : RWf R) (hC : MR D r R) (hf : D.1 (11, 0, 2, 0) 8 = nI r) (hw : ∀ k, k < 12 → D.2.1 (11, 0, 38, 0) k = w k) : ∃ D', F_X11_wanted D = some (rlv R w, D') ∧ SmL (11, 0, 39, 0) D D' := by
  have hx : (12 : Int32) * nI r = nI (12 * r) := by rw [show (12 : Int32) = nI 12 from rfl, pk_mul]
  have h12 := hR.1
  simp only [F_X11_wanted, bnd, hf, hx]
  exact r_wantLoop hr hR R.1 2000 0 D hC (by omega) (by omega) hw
