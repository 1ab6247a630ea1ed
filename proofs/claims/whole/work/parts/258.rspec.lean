/-! ===== a RULE's text: what it must give ===== -/
abbrev En : Type := Int32 × Int32
abbrev PR : Type := Nat ⊕ (Nat × Nat × List En)
def pB (x : PR) (f : Nat → Nat → PR) : PR := match x with
  | .inl e => .inl e
  | .inr (q, c, l) => match f q c with
    | .inl e => .inl e
    | .inr (q', c', l') => .inr (q', c', l ++ l')
def pVal (T : Tp) (q c : Nat) : PR := if kd T q = 2 then .inl (1 + 8 * q + 1) else if kd T q = 1 ∨ (20 ≤ kd T q ∧ kd T q < 32) then (if 60 ≤ c then .inl (1 + 8 * q + 3) else .inr (nq T q, c + 1, [if kd T q = 1 then (1, nI (nm T q)) else (20, nI (kd T q - 20))])) else .inl (1 + 8 * q)
def wL (w : Nat) : List En := if w = 0 then [] else [(nI w, 0)]
def pSL (T : Tp) : Nat → Nat → Nat → Nat → PR
  | 0, _, _, _ => .inl 1
  | m + 1, w, q, c => if 7 ≤ kd T q ∧ kd T q ≤ 11 then (if kd T q = 7 ∨ kd T q = 8 then pB (.inr (nq T q, c, wL w)) (fun q0 c0 => pB (pVal T q0 c0) (fun q1 c1 => pSL T m (kd T q) q1 c1)) else pB (pVal T (nq T q) c) (fun q1 c1 => pB (.inr (q1, c1, [(nI (kd T q), 0)])) (fun q2 c2 => pSL T m w q2 c2))) else .inr (q, c, wL w)
def pSum (T : Tp) (q c : Nat) : PR := pB (pVal T q c) (fun q1 c1 => pSL T 401 0 q1 c1)
def pCmp (T : Tp) (q c : Nat) : PR := pB (pSum T q c) (fun q1 c1 => if 12 ≤ kd T q1 ∧ kd T q1 ≤ 16 then (if 60 ≤ c1 then .inl (1 + 8 * q1 + 3) else pB (pSum T (nq T q1) (c1 + 1)) (fun q2 c2 => .inr (q2, c2, [(nI (kd T q1), 0)]))) else .inl (1 + 8 * q1))
def oL (w : Bool) : List En := if w = true then [(37, 0)] else []
def pTL (T : Tp) (F : Nat → Nat → PR) : Nat → Bool → Nat → Nat → PR
  | 0, _, _, _ => .inl 1
  | m + 1, w, q, c => if kd T q = 36 then pB (F (nq T q) c) (fun q1 c1 => pB (.inr (q1, c1, [(36, 0)])) (fun q2 c2 => pTL T F m w q2 c2)) else if kd T q = 37 then pB (.inr (nq T q, c, oL w)) (fun q0 c0 => pB (F q0 c0) (fun q1 c1 => pTL T F m true q1 c1)) else .inr (q, c, oL w)
def pTst (T : Tp) (F : Nat → Nat → PR) (q c : Nat) : PR := pB (F q c) (fun q1 c1 => pTL T F 401 false q1 c1)
def pFct (T : Tp) : Nat → Nat → Nat → PR
  | 0, q, c => if kd T q = 5 ∨ kd T q = 35 then .inl (1 + 8 * q + 2) else pCmp T q c
  | r + 1, q, c => if kd T q = 5 then pB (pTst T (pFct T r) (nq T q) c) (fun q1 c1 => if kd T q1 = 6 then .inr (nq T q1, c1, []) else .inl (1 + 8 * q1)) else if kd T q = 35 then pB (pFct T r (nq T q) c) (fun q1 c1 => .inr (q1, c1, [(35, 0)])) else pCmp T q c
/-- places go on, counts and types hold: 3 * entries + 6 * c + q + A ≤ 6 * c' + q' + B -/
def gdP (T : Tp) (q c A B : Nat) (ti to : List Bool) (x : PR) : Prop := match x with
  | .inl f => 1 ≤ f ∧ f ≤ 8 * tpL T + 10
  | .inr (q', c', l) => q ≤ q' ∧ q' ≤ tpL T ∧ c ≤ c' ∧ c' ≤ 60 ∧ nv l + c ≤ c' ∧ 3 * l.length + 6 * c + q + A ≤ 6 * c' + q' + B ∧ ∀ ts, ty l (ti ++ ts) = some (to ++ ts)
theorem gdP.w {T : Tp} {q c A B A' B' : Nat} {ti to : List Bool} {x : PR} (h : gdP T q c A B ti to x) (hab : A' + B ≤ A + B') : gdP T q c A' B' ti to x := by
  unfold gdP at h ⊢
  cases x with
  | inl f => exact h
  | inr y =>
    obtain ⟨a1, a2, a3, a4, a5, a6, a7⟩ := h
    exact ⟨a1, a2, a3, a4, a5, by omega, a7⟩
theorem gdP.b {T : Tp} {q c A1 B1 A2 B2 : Nat} {t0 t1 t2 : List Bool} {x : PR} {f : Nat → Nat → PR} (h : gdP T q c A1 B1 t0 t1 x) (hf : ∀ q1 c1 l1, x = .inr (q1, c1, l1) → q ≤ q1 → q1 ≤ tpL T → c1 ≤ 60 → gdP T q1 c1 A2 B2 t1 t2 (f q1 c1)) : gdP T q c (A1 + A2) (B1 + B2) t0 t2 (pB x f) := by
  unfold pB
  cases x with
  | inl e => exact h
  | inr y =>
    obtain ⟨q1, c1, l1⟩ := y
    obtain ⟨a1, a2, a3, a4, a5, a6, a7⟩ := h
    have h2 := hf q1 c1 l1 rfl a1 a2 a4
    simp only
    cases e : f q1 c1 with
    | inl g => rw [e] at h2; exact h2
    | inr z =>
      obtain ⟨q2, c2, l2⟩ := z
      rw [e] at h2
      obtain ⟨b1, b2, b3, b4, b5, b6, b7⟩ := h2
      refine ⟨by omega, b2, by omega, b4, ?_, ?_, fun ts => ?_⟩
      · rw [nv_app]; omega
      · rw [List.length_append]; omega
      · rw [ty_app l1 l2 _ _ (a7 ts), b7 ts]
theorem gdP.o {T : Tp} {q c q' : Nat} {l : List En} {A B : Nat} {ti to : List Bool} (h1 : q ≤ q') (h2 : q' ≤ tpL T) (hc : c ≤ 60) (hn : nv l = 0) (hl : 3 * l.length + q + A ≤ q' + B) (ht : ∀ ts, ty l (ti ++ ts) = some (to ++ ts)) : gdP T q c A B ti to (.inr (q', c, l)) := ⟨h1, h2, Nat.le_refl _, hc, by omega, by omega, ht⟩
theorem kd_lt {T : Tp} {q : Nat} (h : kd T q ≠ 0) : q < tpL T := by
  have : ¬ tpL T ≤ q := fun x => h (kd_0.mpr x)
  omega
theorem inB12 : ∀ k, k < 12 → inB (nI k) 12 = true := by decide
theorem pVal_gd {T : Tp} {q c : Nat} (hq : q ≤ tpL T) (hc : c ≤ 60) : gdP T q c 4 0 [] [false] (pVal T q c) := by
  unfold pVal
  split
  · exact ⟨by omega, by omega⟩
  · split
    · rename_i h
      split
      · exact ⟨by omega, by omega⟩
      · have hlt := kd_lt (T := T) (q := q) (by omega)
        obtain ⟨g1, g2⟩ := nq_gt hlt
        refine ⟨by omega, g2, by omega, by omega, ?_, ?_, fun ts => ?_⟩
        · by_cases c1 : kd T q = 1
          · rw [if_pos c1]
            show (if (1 : Int32) = 1 ∨ (1 : Int32) = 20 then 1 else 0) + 0 + c ≤ c + 1
            rw [if_pos (Or.inl rfl)]
            omega
          · rw [if_neg c1]
            show (if (20 : Int32) = 1 ∨ (20 : Int32) = 20 then 1 else 0) + 0 + c ≤ c + 1
            rw [if_pos (Or.inr rfl)]
            omega
        · simp only [List.length_cons, List.length_nil]
          omega
        · by_cases c1 : kd T q = 1
          · rw [if_pos c1]
            rfl
          · rw [if_neg c1]
            have := inB12 (kd T q - 20) (by omega)
            simp only [ty, ty1, List.nil_append, List.cons_append]
            rw [if_neg (by decide), if_pos trivial, if_pos this]
    · exact ⟨by omega, by omega⟩
theorem isAr_k : ∀ k, 7 ≤ k → k ≤ 11 → isAr (nI k) = true ∧ ¬ nI k = 1 ∧ ¬ nI k = 20 ∧ ¬ nI k = 35 := by
  intro k h1 h2
  have : k = 7 ∨ k = 8 ∨ k = 9 ∨ k = 10 ∨ k = 11 := by omega
  rcases this with rfl | rfl | rfl | rfl | rfl <;> decide
theorem ty_ar {k : Nat} (h1 : 7 ≤ k) (h2 : k ≤ 11) (ts : List Bool) : ty [(nI k, 0)] (false :: false :: ts) = some (false :: ts) := by
  obtain ⟨a, b, c, d⟩ := isAr_k k h1 h2
  simp only [ty, ty1]
  rw [if_neg b, if_neg c, if_neg d, if_pos a]
theorem nv_ar {k : Nat} (h1 : 7 ≤ k) (h2 : k ≤ 37) (h3 : k ≠ 20) : nv [(nI k, 0)] = 0 := by
  have e1 : ¬ nI k = (1 : Int32) := fun e => by have := (nI_eq (b := 1) (by omega) (by decide)).mp e; omega
  have e2 : ¬ nI k = (20 : Int32) := fun e => by have := (nI_eq (b := 20) (by omega) (by decide)).mp e; omega
  simp only [nv]
  rw [if_neg (by rintro (x | x); exact e1 x; exact e2 x)]
theorem gdP.t {T : Tp} {q c A B : Nat} {ti to ts : List Bool} {x : PR} (h : gdP T q c A B ti to x) : gdP T q c A B (ti ++ ts) (to ++ ts) x := by
  unfold gdP at h ⊢
  cases x with
  | inl f => exact h
  | inr y =>
    obtain ⟨a1, a2, a3, a4, a5, a6, a7⟩ := h
    exact ⟨a1, a2, a3, a4, a5, a6, fun t => by rw [List.append_assoc, List.append_assoc]; exact a7 (ts ++ t)⟩
def wT (w : Nat) : List Bool := if w = 0 then [false] else [false, false]
def wB (w : Nat) : Nat := if w = 0 then 0 else 3
theorem wL_f {w : Nat} (hw : w = 0 ∨ w = 7 ∨ w = 8) : nv (wL w) = 0 ∧ 3 * (wL w).length = wB w ∧ ∀ ts, ty (wL w) (wT w ++ ts) = some ([false] ++ ts) := by
  rcases hw with rfl | rfl | rfl
  · exact ⟨rfl, rfl, fun ts => rfl⟩
  · exact ⟨nv_ar (k := 7) (by decide) (by decide) (by decide), rfl, fun ts => ty_ar (k := 7) (by decide) (by decide) ts⟩
  · exact ⟨nv_ar (k := 8) (by decide) (by decide) (by decide), rfl, fun ts => ty_ar (k := 8) (by decide) (by decide) ts⟩
theorem pSL_gd {T : Tp} : ∀ m w q c, tpL T < m + q → q ≤ tpL T → c ≤ 60 → (w = 0 ∨ w = 7 ∨ w = 8) → gdP T q c 0 (wB w) (wT w) [false] (pSL T m w q c)
  | 0, w, q, c, h, hq, _, _ => absurd h (by omega)
  | m + 1, w, q, c, h, hq, hc, hw => by
    obtain ⟨w1, w2, w3⟩ := wL_f hw
    rw [pSL]
    by_cases h7 : 7 ≤ kd T q ∧ kd T q ≤ 11
    · rw [if_pos h7]
      obtain ⟨g1, g2⟩ := nq_gt (kd_lt (T := T) (q := q) (by omega))
      by_cases h78 : kd T q = 7 ∨ kd T q = 8
      · rw [if_pos h78]
        refine (gdP.b (A1 := 1) (B1 := wB w) (A2 := 4) (B2 := 3) (t1 := [false]) (gdP.o (by omega) g2 hc w1 (by omega) w3) (fun q0 c0 l0 e h1 h2 h3 => ?_)).w (by omega)
        simp only [Sum.inr.injEq, Prod.mk.injEq] at e
        refine gdP.b (A1 := 4) (B1 := 0) (A2 := 0) (B2 := 3) (t1 := [false, false]) (gdP.t (ts := [false]) (pVal_gd h2 h3)) (fun q1 c1 l1 _ h4 h5 h6 => ?_)
        have := pSL_gd m (kd T q) q1 c1 (by omega) h5 h6 (Or.inr h78)
        unfold wB wT at this
        rw [if_neg (by omega), if_neg (by omega)] at this
        exact this
      · rw [if_neg h78]
        refine (gdP.b (A1 := 5) (B1 := 0) (A2 := 0) (B2 := wB w + 3) (t1 := [false] ++ wT w) ?_ (fun q1 c1 l1 _ h1 h2 h3 => ?_)).w (by omega)
        · have hv := gdP.t (ts := wT w) (pVal_gd (T := T) (q := nq T q) (c := c) g2 hc)
          unfold gdP at hv ⊢
          cases e : pVal T (nq T q) c with
          | inl f => rw [e] at hv; exact hv
          | inr y =>
            rw [e] at hv
            obtain ⟨a1, a2, a3, a4, a5, a6, a7⟩ := hv
            exact ⟨by omega, a2, a3, a4, a5, by omega, a7⟩
        · refine (gdP.b (A1 := 0) (B1 := 3) (A2 := 0) (B2 := wB w) (t1 := wT w) (gdP.o (Nat.le_refl _) h2 h3 (nv_ar (k := kd T q) (by omega) (by omega) (by omega)) (by simp only [List.length_cons, List.length_nil]; omega) (fun ts => ?_)) (fun q2 c2 l2 e h4 h5 h6 => ?_)).w (by omega)
          · unfold wT
            by_cases cw : w = 0
            · rw [if_pos cw]
              exact ty_ar (k := kd T q) (by omega) (by omega) ts
            · rw [if_neg cw]
              exact ty_ar (k := kd T q) (by omega) (by omega) (false :: ts)
          · simp only [Sum.inr.injEq, Prod.mk.injEq] at e
            exact pSL_gd m w q2 c2 (by
              have hq1 : nq T q ≤ q1 := by
                rename_i hx
                have hv := pVal_gd (T := T) (q := nq T q) (c := c) g2 hc
                unfold gdP at hv
                rw [hx] at hv
                exact hv.1
              omega) h5 h6 hw
    · rw [if_neg h7]
      exact gdP.o (Nat.le_refl _) hq hc w1 (by omega) w3
theorem pSum_gd {T : Tp} {q c : Nat} (hL : tpL T ≤ 400) (hq : q ≤ tpL T) (hc : c ≤ 60) : gdP T q c 4 0 [] [false] (pSum T q c) := by
  unfold pSum
  refine (gdP.b (A1 := 4) (B1 := 0) (A2 := 0) (B2 := 0) (t1 := [false]) (pVal_gd hq hc) (fun q1 c1 l1 _ h1 h2 h3 => ?_)).w (by omega)
  exact pSL_gd 401 0 q1 c1 (by omega) h2 h3 (Or.inl rfl)
theorem cp_f : ∀ k, 12 ≤ k → k ≤ 16 → isCp (nI k) = true ∧ isAr (nI k) = false ∧ ¬ nI k = 1 ∧ ¬ nI k = 20 ∧ ¬ nI k = 35 := by
  intro k h1 h2
  have : k = 12 ∨ k = 13 ∨ k = 14 ∨ k = 15 ∨ k = 16 := by omega
  rcases this with rfl | rfl | rfl | rfl | rfl <;> decide
theorem pCmp_gd {T : Tp} {q c : Nat} (hL : tpL T ≤ 400) (hq : q ≤ tpL T) (hc : c ≤ 60) : gdP T q c 9 0 [] [true] (pCmp T q c) := by
  unfold pCmp
  refine (gdP.b (A1 := 4) (B1 := 0) (A2 := 8) (B2 := 3) (t1 := [false]) (pSum_gd hL hq hc) (fun q1 c1 l1 _ h1 h2 h3 => ?_)).w (by omega)
  by_cases d : 12 ≤ kd T q1 ∧ kd T q1 ≤ 16
  · rw [if_pos d]
    by_cases d2 : 60 ≤ c1
    · rw [if_pos d2]
      exact ⟨by omega, by omega⟩
    · rw [if_neg d2]
      obtain ⟨g1, g2⟩ := nq_gt (kd_lt (T := T) (q := q1) (by omega))
      have hs := gdP.b (T := T) (q := nq T q1) (c := c1 + 1) (A1 := 4) (B1 := 0) (A2 := 0) (B2 := 3) (t0 := [] ++ [false]) (t1 := [false] ++ [false]) (t2 := [true]) (x := pSum T (nq T q1) (c1 + 1)) (f := fun q2 c2 => .inr (q2, c2, [(nI (kd T q1), 0)])) (gdP.t (ts := [false]) (pSum_gd hL g2 (by omega))) (fun q2 c2 l2 _ h4 h5 h6 => gdP.o (Nat.le_refl _) h5 h6 (nv_ar (k := kd T q1) (by omega) (by omega) (by omega)) (by simp only [List.length_cons, List.length_nil]; omega) (fun ts => by
        obtain ⟨x1, x2, x3, x4, x5⟩ := cp_f (kd T q1) d.1 d.2
        show ty [(nI (kd T q1), 0)] (false :: false :: ts) = some (true :: ts)
        simp only [ty, ty1]
        rw [if_neg x3, if_neg x4, if_neg x5, x2, if_neg (by decide), if_pos x1]))
      unfold gdP at hs ⊢
      cases e : pB (pSum T (nq T q1) (c1 + 1)) (fun q2 c2 => .inr (q2, c2, [(nI (kd T q1), 0)])) with
      | inl f => rw [e] at hs; exact hs
      | inr y =>
        rw [e] at hs
        obtain ⟨a1, a2, a3, a4, a5, a6, a7⟩ := hs
        exact ⟨by omega, a2, by omega, a4, by omega, by omega, a7⟩
  · rw [if_neg d]
    exact ⟨by omega, by omega⟩
def tyO (w : Bool) : List Bool := if w = true then [true, true] else [true]
def wO (w : Bool) : Nat := if w = true then 3 else 0
theorem oL_f (w : Bool) : nv (oL w) = 0 ∧ 3 * (oL w).length = wO w ∧ ∀ ts, ty (oL w) (tyO w ++ ts) = some ([true] ++ ts) := by
  cases w with
  | true => exact ⟨by decide, rfl, fun ts => rfl⟩
  | false => exact ⟨rfl, rfl, fun ts => rfl⟩
theorem pTL_gd {T : Tp} {F : Nat → Nat → PR} (hF : ∀ q c, q ≤ tpL T → c ≤ 60 → gdP T q c 9 0 [] [true] (F q c)) : ∀ m w q c, tpL T < m + q → q ≤ tpL T → c ≤ 60 → gdP T q c 0 (wO w) (tyO w) [true] (pTL T F m w q c)
  | 0, w, q, c, h, hq, _ => absurd h (by omega)
  | m + 1, w, q, c, h, hq, hc => by
    obtain ⟨w1, w2, w3⟩ := oL_f w
    rw [pTL]
    have up : ∀ {q0 A B : Nat} {ti to : List Bool} {x : PR}, q ≤ q0 → gdP T q0 c A B ti to x → gdP T q c A B ti to x := by
      intro q0 A B ti to x h0 hx
      unfold gdP at hx ⊢
      cases x with
      | inl f => exact hx
      | inr y =>
        obtain ⟨a1, a2, a3, a4, a5, a6, a7⟩ := hx
        exact ⟨by omega, a2, a3, a4, a5, by omega, a7⟩
    by_cases h36 : kd T q = 36
    · rw [if_pos h36]
      obtain ⟨g1, g2⟩ := nq_gt (kd_lt (T := T) (q := q) (by omega))
      have hFx := hF (nq T q) c g2 hc
      refine (gdP.b (A1 := 9) (B1 := 0) (A2 := 0) (B2 := wO w + 3) (t1 := [true] ++ tyO w) (up (by omega) (gdP.t (ts := tyO w) hFx)) (fun q1 c1 l1 ex h1 h2 h3 => ?_)).w (by omega)
      refine (gdP.b (A1 := 0) (B1 := 3) (A2 := 0) (B2 := wO w) (t1 := tyO w) (gdP.o (Nat.le_refl _) h2 h3 (by decide) (by simp only [List.length_cons, List.length_nil]; omega) (fun ts => ?_)) (fun q2 c2 l2 e h4 h5 h6 => ?_)).w (by omega)
      · cases w <;> rfl
      · simp only [Sum.inr.injEq, Prod.mk.injEq] at e
        have hq1 : nq T q ≤ q1 := by
          unfold gdP at hFx
          rw [ex] at hFx
          exact hFx.1
        exact pTL_gd hF m w q2 c2 (by omega) h5 h6
    · rw [if_neg h36]
      by_cases h37 : kd T q = 37
      · rw [if_pos h37]
        obtain ⟨g1, g2⟩ := nq_gt (kd_lt (T := T) (q := q) (by omega))
        refine (gdP.b (A1 := 1) (B1 := wO w) (A2 := 9) (B2 := 3) (t1 := [true]) (gdP.o (by omega) g2 hc w1 (by omega) w3) (fun q0 c0 l0 e h1 h2 h3 => ?_)).w (by omega)
        simp only [Sum.inr.injEq, Prod.mk.injEq] at e
        refine gdP.b (A1 := 9) (B1 := 0) (A2 := 0) (B2 := 3) (t1 := [true, true]) (gdP.t (ts := [true]) (hF q0 c0 h2 h3)) (fun q1 c1 l1 _ h4 h5 h6 => ?_)
        exact pTL_gd hF m true q1 c1 (by omega) h5 h6
      · rw [if_neg h37]
        exact gdP.o (Nat.le_refl _) hq hc w1 (by omega) w3
theorem pTst_gd {T : Tp} {F : Nat → Nat → PR} (hL : tpL T ≤ 400) (hF : ∀ q c, q ≤ tpL T → c ≤ 60 → gdP T q c 9 0 [] [true] (F q c)) {q c : Nat} (hq : q ≤ tpL T) (hc : c ≤ 60) : gdP T q c 9 0 [] [true] (pTst T F q c) := by
  unfold pTst
  refine (gdP.b (A1 := 9) (B1 := 0) (A2 := 0) (B2 := 0) (t1 := [true]) (hF q c hq hc) (fun q1 c1 l1 _ h1 h2 h3 => ?_)).w (by omega)
  exact pTL_gd hF 401 false q1 c1 (by omega) h2 h3
theorem pFct_gd {T : Tp} (hL : tpL T ≤ 400) : ∀ r q c, q ≤ tpL T → c ≤ 60 → gdP T q c 9 0 [] [true] (pFct T r q c)
  | 0, q, c, hq, hc => by
    rw [pFct]
    split
    · exact ⟨by omega, by omega⟩
    · exact pCmp_gd hL hq hc
  | r + 1, q, c, hq, hc => by
    have up : ∀ {q0 A B : Nat} {ti to : List Bool} {x : PR}, q + 3 ≤ q0 → gdP T q0 c A B ti to x → gdP T q c (A + 3) B ti to x := by
      intro q0 A B ti to x h0 hx
      unfold gdP at hx ⊢
      cases x with
      | inl f => exact hx
      | inr y =>
        obtain ⟨a1, a2, a3, a4, a5, a6, a7⟩ := hx
        exact ⟨by omega, a2, a3, a4, a5, by omega, a7⟩
    have up0 : ∀ {q0 A B : Nat} {ti to : List Bool} {x : PR}, q ≤ q0 → gdP T q0 c A B ti to x → gdP T q c A B ti to x := by
      intro q0 A B ti to x h0 hx
      unfold gdP at hx ⊢
      cases x with
      | inl f => exact hx
      | inr y =>
        obtain ⟨a1, a2, a3, a4, a5, a6, a7⟩ := hx
        exact ⟨by omega, a2, a3, a4, a5, by omega, a7⟩
    rw [pFct]
    split
    · rename_i h5
      obtain ⟨g1, g2⟩ := nq_gt (kd_lt (T := T) (q := q) (by omega))
      refine (gdP.b (A1 := 9) (B1 := 0) (A2 := 0) (B2 := 0) (t1 := [true]) (up0 (by omega) (pTst_gd hL (pFct_gd hL r) g2 hc)) (fun q1 c1 l1 _ h1 h2 h3 => ?_)).w (by omega)
      split
      · rename_i h6
        obtain ⟨g3, g4⟩ := nq_gt (kd_lt (T := T) (q := q1) (by omega))
        exact gdP.o (by omega) g4 h3 rfl (by simp only [List.length_nil]; omega) (fun ts => rfl)
      · exact ⟨by omega, by omega⟩
    · split
      · rename_i h35
        obtain ⟨g1, g2⟩ := nq_gt (kd_lt (T := T) (q := q) (by omega))
        have hnx := kd_nx (T := T) (q := q) (k := 15) (by decide) h35
        have h3 : q + 3 ≤ nq T q := by
          have := sbk_ge (T := T) (p := nx T q)
          have e3 : lnS (sx 15) = 3 := by decide
          unfold nq
          omega
        refine (gdP.b (A1 := 12) (B1 := 0) (A2 := 0) (B2 := 3) (t1 := [true]) (up h3 (pFct_gd hL r _ _ g2 hc)) (fun q1 c1 l1 _ h1 h2 h3 => ?_)).w (by omega)
        exact gdP.o (Nat.le_refl _) h2 h3 (by decide) (by simp only [List.length_cons, List.length_nil]; omega) (fun ts => by cases ts <;> rfl)
      · exact pCmp_gd hL hq hc
