/-! ===== whom nobody had best buy from ===== -/
def tb (m k : Nat) : Bool := m / 2 ^ k % 2 == 1
theorem has_tb : ∀ m, m < 32 → ∀ k, k < 5 → hasB (nI m) k = tb m k := by decide +kernel
theorem or_tb : ∀ m, m < 32 → ∀ b, b < 5 → ∃ r, r < 32 ∧ nI m ||| (1 <<< (nI b &&& 31)) = nI r ∧ ∀ k, k < 5 → tb r k = (tb m k || decide (k = b)) := by
  have : ∀ m, m < 32 → ∀ b, b < 5 → (m ||| 2 ^ b) < 32 ∧ nI m ||| (1 <<< (nI b &&& 31)) = nI (m ||| 2 ^ b) ∧ ∀ k, k < 5 → tb (m ||| 2 ^ b) k = (tb m k || decide (k = b)) := by decide +kernel
  exact fun m hm b hb => ⟨m ||| 2 ^ b, this m hm b hb⟩
/-- c' shuns x too -/
def shX (c c' : Cf) (x : Nat) : Prop := c' = (c.1, c.2.1, c.2.2.1, c.2.2.2.1, cfH c', c.2.2.2.2.2) ∧ cfC c = -1 ∧ cfN c ≤ 5 ∧ ∀ b, b < 5 → hasB (cfH c') b = (hasB (cfH c) b || decide (b = x))
theorem shX_lk {c c' : Cf} {x : Nat} (h : shX c c' x) (s : St) (a b : Nat) : lkP c' s a b = lkP c s a b := by
  rw [h.1]
  rfl
theorem pk1_sh {c c' : Cf} {x : Nat} (h : shX c c' x) (s : St) (a : Nat) : ∀ n, n ≤ 5 → pk1 c' s a n = pk1 c s a n ∨ ((pk1 c s a n).1 = nI x ∧ (pk1 c' s a n).2 ≤ (pk1 c s a n).2)
  | 0, _ => Or.inl rfl
  | n + 1, hn => by
    have ih := pk1_sh h s a n (by omega)
    have hb := h.2.2.2 n (by omega)
    rw [pk1, pk1, shX_lk h, hb]
    generalize lkP c s a n = v
    by_cases cx : n = x
    · subst cx
      have h1 : ¬ ((pMay s a n = true ∧ (hasB (cfH c) n || decide (n = n)) = false) ∧ ¬ v ≤ (pk1 c' s a n).2) := fun y => by simp at y
      rw [if_neg h1]
      by_cases c1 : (pMay s a n = true ∧ hasB (cfH c) n = false) ∧ ¬ v ≤ (pk1 c s a n).2
      · rw [if_pos c1]
        refine Or.inr ⟨rfl, ?_⟩
        show (pk1 c' s a n).2 ≤ v
        have : (pk1 c' s a n).2 ≤ (pk1 c s a n).2 := by
          rcases ih with e | e
          · rw [e]
            exact Int64.le_refl _
          · exact e.2
        rw [fa_le64] at this ⊢
        have c2 := c1.2
        rw [fa_le64] at c2
        omega
      · rw [if_neg c1]
        exact ih
    · have e1 : (hasB (cfH c) n || decide (n = x)) = hasB (cfH c) n := by simp [cx]
      rw [e1]
      rcases ih with e | ⟨e2, e3⟩
      · rw [e]
        exact Or.inl rfl
      · by_cases c0 : pMay s a n = true ∧ hasB (cfH c) n = false
        · by_cases c1 : v ≤ (pk1 c s a n).2
          · rw [if_neg (fun y => y.2 c1) (c := (pMay s a n = true ∧ hasB (cfH c) n = false) ∧ ¬ v ≤ (pk1 c s a n).2)]
            refine Or.inr ⟨e2, ?_⟩
            by_cases c2 : v ≤ (pk1 c' s a n).2
            · rw [if_neg (fun y => y.2 c2)]
              exact e3
            · rw [if_pos ⟨c0, c2⟩]
              exact c1
          · have c2 : ¬ v ≤ (pk1 c' s a n).2 := by
              rw [fa_le64] at *
              omega
            rw [if_pos ⟨c0, c2⟩, if_pos ⟨c0, c1⟩]
            exact Or.inl rfl
        · rw [if_neg (fun y => c0 y.1), if_neg (fun y => c0 y.1)]
          exact Or.inr ⟨e2, e3⟩
theorem pkP_sh {c c' : Cf} {x : Nat} (h : shX c c' x) (m : Bool) (s : St) (a : Nat) (ha : a < 5) (hne : pkP c m s a ≠ nI x) : pkP c' m s a = pkP c m s a := by
  have hC : cfC c' = -1 := by rw [h.1]; exact h.2.1
  have hI : cfI c' = cfI c := by rw [h.1]; rfl
  have hN : cfN c' = cfN c := by rw [h.1]; rfl
  have e : ∀ d : Cf, cfC d = -1 → pkP d m s a = if hasB (cfI d) a = true then -1 else (pk1 d s a (cfN d)).1 := by
    intro d hd
    rw [pkP, if_neg]
    rw [hd]
    exact nI_nem1 (by omega)
  rw [e c' hC, hI, hN]
  rw [e c h.2.1] at hne ⊢
  by_cases c1 : hasB (cfI c) a = true
  · rw [if_pos c1, if_pos c1]
  · rw [if_neg c1] at hne ⊢
    rw [if_neg c1]
    rcases pk1_sh h s a (cfN c) h.2.2.1 with g | g
    · rw [g]
    · exact absurd g.1 hne
/-- bits of sellers -/
def isB (se : Int32) : Prop := ∃ m, m < 32 ∧ se = nI m
theorem wB1_isB {c : Cf} {a : Nat} {y : Wq} (hn : cfN c ≤ 5) (h : isB y.2.2.2) : isB (wB1 c a y).2.2.2 ∧ ∀ k, k < 5 → hasB (wB1 c a y).2.2.2 k = (hasB y.2.2.2 k || decide (pkP c y.2.2.1 y.1 a = nI k)) := by
  obtain ⟨m, hm, em⟩ := h
  rcases pkP_rng (c := c) (m := y.2.2.1) (s := y.1) (a := a) with e | ⟨b, hb, e, _⟩
  · have hB : (wB1 c a y).2.2.2 = y.2.2.2 := by unfold wB1; rw [if_pos e]
    rw [hB]
    refine ⟨⟨m, hm, em⟩, fun k hk => ?_⟩
    rw [e]
    have : ¬ (-1 : Int32) = nI k := fun z => nI_nem1 (by omega) z.symm
    simp [this]
  · have hne : ¬ pkP c y.2.2.1 y.1 a = -1 := by rw [e]; exact nI_nem1 (by omega)
    have hB : (wB1 c a y).2.2.2 = y.2.2.2 ||| (1 <<< (nI b &&& 31)) := by unfold wB1; rw [if_neg hne, e]
    obtain ⟨r, hr, er, ht⟩ := or_tb m hm b (by omega)
    rw [hB, em, er]
    refine ⟨⟨r, hr, rfl⟩, fun k hk => ?_⟩
    rw [has_tb r hr k hk, has_tb m hm k hk, ht k hk, e]
    congr 1
    by_cases c : k = b
    · subst c; simp
    · have : ¬ nI b = nI k := fun z => c ((nI_eq (by omega) (by omega)).mp z).symm
      simp [c, this]
theorem itB_isB {c : Cf} {y : Wq} (hn : cfN c ≤ 5) (h : isB y.2.2.2) : ∀ n, isB (itr (wB1 c) n y).2.2.2 ∧ ∀ k, k < 5 → hasB y.2.2.2 k = true → hasB (itr (wB1 c) n y).2.2.2 k = true
  | 0 => ⟨h, fun _ _ z => z⟩
  | n + 1 => by
    obtain ⟨h1, h2⟩ := itB_isB hn h n
    obtain ⟨g1, g2⟩ := wB1_isB (c := c) (a := n) hn h1
    refine ⟨g1, fun k hk z => ?_⟩
    rw [itr, g2 k hk, h2 k hk z]
    rfl
theorem wB1_eq {c c' : Cf} {a : Nat} {y : Wq} (h1 : pkP c' y.2.2.1 y.1 a = pkP c y.2.2.1 y.1 a) (h2 : pkM c' y.2.2.1 y.1 a = pkM c y.2.2.1 y.1 a) : wB1 c' a y = wB1 c a y := by
  unfold wB1
  rw [h1, h2]
theorem wB1_sh {c c' : Cf} {x a : Nat} (h : shX c c' x) (hx : x < 5) (ha : a < 5) {y : Wq} (hy : isB y.2.2.2) (hz : hasB (wB1 c a y).2.2.2 x = false) : wB1 c' a y = wB1 c a y := by
  have g2 := (wB1_isB (c := c) (a := a) h.2.2.1 hy).2 x hx
  rw [g2] at hz
  have hz2 : decide (pkP c y.2.2.1 y.1 a = nI x) = false := (Bool.or_eq_false_iff.mp hz).2
  have hne : pkP c y.2.2.1 y.1 a ≠ nI x := of_decide_eq_false hz2
  have hC : cfC c' = -1 := by rw [h.1]; exact h.2.1
  exact wB1_eq (pkP_sh h y.2.2.1 y.1 a ha hne) ((pkM_no hC (Nat.lt_trans ha (by decide))).trans (pkM_no h.2.1 (Nat.lt_trans ha (by decide))).symm)
theorem wB1_mono {c : Cf} {x a : Nat} (hn : cfN c ≤ 5) (hx : x < 5) {y : Wq} (hy : isB y.2.2.2) (hz : hasB (wB1 c a y).2.2.2 x = false) : hasB y.2.2.2 x = false := by
  have g2 := (wB1_isB (c := c) (a := a) hn hy).2 x hx
  rw [g2] at hz
  exact (Bool.or_eq_false_iff.mp hz).1
theorem itr_0 {σ : Type} {f : Nat → σ → σ} {s : σ} : itr f 0 s = s := by rw [itr]
theorem itr_s {σ : Type} {f : Nat → σ → σ} {n : Nat} {s : σ} : itr f (n + 1) s = f n (itr f n s) := by rw [itr]
theorem itB_sh {c c' : Cf} {x : Nat} (h : shX c c' x) (hx : x < 5) {y : Wq} (hy : isB y.2.2.2) : ∀ n, n ≤ 5 → hasB (itr (wB1 c) n y).2.2.2 x = false → itr (wB1 c') n y = itr (wB1 c) n y := by
  intro n
  induction n with
  | zero =>
    intro _ _
    exact itr_0.trans itr_0.symm
  | succ n ih =>
    intro hn hz
    have h1 := (itB_isB h.2.2.1 hy n).1
    rw [itr_s] at hz
    rw [itr_s, itr_s]
    have e1 := ih (Nat.le_of_succ_le hn) (wB1_mono h.2.2.1 hx h1 hz)
    rw [e1]
    exact wB1_sh h hx (Nat.lt_of_succ_le hn) h1 hz
theorem shX_A {c c' : Cf} {x : Nat} (h : shX c c' x) (s : St) : wkA c' s = wkA c s := by rw [h.1]; rfl
theorem shX_C {c c' : Cf} {x : Nat} (h : shX c c' x) (s : St) : wkC c' s = wkC c s := by rw [h.1]; rfl
theorem pWk_sh {c c' : Cf} {x : Nat} (h : shX c c' x) (hx : x < 5) {m : Bool} {s : St} {se : Int32} (hy : isB se) (hz : hasB (pWk c m s se).2.2.2 x = false) : pWk c' m s se = pWk c m s se := by
  have hN : cfN c' = cfN c := by rw [h.1]; rfl
  have e : wkB c' (wkA c' s, 0, m, se) = wkB c (wkA c s, 0, m, se) := by
    rw [shX_A h]
    unfold wkB
    rw [hN]
    exact itB_sh h hx hy (cfN c) h.2.2.1 hz
  unfold pWk
  rw [e, shX_C h]
theorem pWk_isB {c : Cf} {m : Bool} {s : St} {se : Int32} (hn : cfN c ≤ 5) (h : isB se) : isB (pWk c m s se).2.2.2 ∧ ∀ k, k < 5 → hasB se k = true → hasB (pWk c m s se).2.2.2 k = true := itB_isB (y := (wkA c s, 0, m, se)) hn h (cfN c)
theorem tB_isB {c : Cf} (hn : cfN c ≤ 5) : ∀ n y, isB y.2 → isB (tB c n y).2 ∧ ∀ k, k < 5 → hasB y.2 k = true → hasB (tB c n y).2 k = true
  | 0, y, h => ⟨h, fun _ _ z => z⟩
  | n + 1, y, h => by
    rw [tB]
    by_cases c0 : totS y.1 2 ≤ 0
    · rw [if_pos c0]
      exact ⟨h, fun _ _ z => z⟩
    · rw [if_neg c0]
      obtain ⟨g1, g2⟩ := pWk_isB (c := c) (m := false) (s := y.1) hn h
      obtain ⟨k1, k2⟩ := tB_isB hn n ((pWk c false y.1 y.2).1, (pWk c false y.1 y.2).2.2.2) g1
      exact ⟨k1, fun k hk z => k2 k hk (g2 k hk z)⟩
theorem tB_sh {c c' : Cf} {x : Nat} (h : shX c c' x) (hx : x < 5) : ∀ n y, isB y.2 → hasB (tB c n y).2 x = false → tB c' n y = tB c n y
  | 0, _, _, _ => rfl
  | n + 1, y, hy, hz => by
    rw [tB] at hz ⊢
    rw [tB]
    by_cases c0 : totS y.1 2 ≤ 0
    · rw [if_pos c0, if_pos c0]
    · rw [if_neg c0] at hz ⊢
      rw [if_neg c0]
      obtain ⟨g1, g2⟩ := pWk_isB (c := c) (m := false) (s := y.1) h.2.2.1 hy
      obtain ⟨k1, k2⟩ := tB_isB h.2.2.1 n ((pWk c false y.1 y.2).1, (pWk c false y.1 y.2).2.2.2) g1
      have hw : hasB (pWk c false y.1 y.2).2.2.2 x = false := by
        cases e : hasB (pWk c false y.1 y.2).2.2.2 x with
        | false => rfl
        | true =>
          have := k2 x hx e
          rw [this] at hz
          cases hz
      rw [pWk_sh h hx hy hw]
      exact tB_sh h hx n _ g1 hz
/-! counts of bits -/
def bcI (a : Int32) : Int32 := ((F_J6_bitCount_0f7a4 a (fun _ _ => 0, fun _ _ => 0, fun _ _ => none)).map Prod.fst).getD 0
theorem bc_e (a : Int32) (D : Dt) : F_J6_bitCount_0f7a4 a D = some (bcI a, D) := by rfl
def pop (j : Nat) : Nat := j % 2 + j / 2 % 2 + j / 4 % 2 + j / 8 % 2 + j / 16 % 2
theorem bc_p : ∀ j, j < 32 → bcI (nI j) = nI (pop j) := by decide +kernel
def btN (a : Int32) : Nat → Int32
  | 0 => 0
  | k + 1 => btN a k + ((a >>> (nI k &&& 31)) &&& 1)
theorem bt_p : ∀ j, j < 32 → btN (nI j) 16 = nI (pop j) := by decide +kernel
theorem r_bits {j : Nat} {D : Dt} (hj : j < 32) : F_X11_bits (nI j) D = some (nI (pop j), D) := by
  rw [F_X11_bits, ← bt_p j hj]
  have : ∀ m fu k, k + m = 16 → m < fu → F_X11_bits_b4 (nI j) fu (nI j) (btN (nI j) k) (nI k) D = some (btN (nI j) 16, D) := by
    intro m
    induction m with
    | zero =>
      intro fu k hk hf
      obtain ⟨fu, rfl⟩ : ∃ g, fu = g + 1 := ⟨fu - 1, by omega⟩
      rw [F_X11_bits_b4, if_pos (show (16 : Int32) ≤ nI k from nI_le (a := 16) (by omega) (by omega)), show k = 16 by omega]
    | succ m ih =>
      intro fu k hk hf
      obtain ⟨fu, rfl⟩ : ∃ g, fu = g + 1 := ⟨fu - 1, by omega⟩
      rw [F_X11_bits_b4, if_neg (show ¬ (16 : Int32) ≤ nI k from nI_ge (b := 16) (by omega) (by decide))]
      simp only [bnd_e, nI_1]
      exact ih fu (k + 1) (by omega) (by omega)
  exact this 16 2000 0 (by omega) (by omega)
theorem wo_p : ∀ j, j < 32 → ∀ x, x < 5 → (nI j &&& ((1 <<< (nI x &&& 31)) ^^^ (-1))) = nI (if tb j x then j - 2 ^ x else j) := by decide +kernel
theorem wo_q : ∀ j, j < 32 → ∀ x, x < 5 → tb j x = true → 2 ^ x ≤ j ∧ pop (j - 2 ^ x) < pop j ∧ ∀ k, k < 5 → tb j k = (tb (j - 2 ^ x) k || decide (k = x)) := by decide +kernel
theorem pop_b : ∀ j, j < 32 → pop j ≤ 5 := by decide +kernel
theorem sh_n : ∀ n, n ≤ 5 → (1 : Int32) <<< (nI n &&& 31) = nI (2 ^ n) ∧ 2 ^ n ≤ 32 := by decide +kernel
theorem c_same {j : Nat} {D : Dt} {S : Nat → Int32} (hj : j < 32) (hS : ∀ i, i < j → D.1 (1, 0, 10, 0) i = S i) : ∃ r, F_X1_sameWithFewer (nI j) D = some (r, D) ∧ (r = -1 ∨ ∃ x, x < 5 ∧ tb j x = true ∧ r = nI (j - 2 ^ x) ∧ hasB (S (j - 2 ^ x)) x = false) := by
  rw [F_X1_sameWithFewer]
  have : ∀ m fu x, x + m = 5 → m < fu → ∃ r, F_X1_sameWithFewer_b2 (nI j) fu (nI j) (nI x) D = some (r, D) ∧ (r = -1 ∨ ∃ x, x < 5 ∧ tb j x = true ∧ r = nI (j - 2 ^ x) ∧ hasB (S (j - 2 ^ x)) x = false) := by
    intro m
    induction m with
    | zero =>
      intro fu x hx hf
      obtain ⟨fu, rfl⟩ : ∃ g, fu = g + 1 := ⟨fu - 1, by omega⟩
      rw [F_X1_sameWithFewer_b2, if_pos (show (5 : Int32) ≤ nI x from nI_le (a := 5) (by omega) (by omega))]
      exact ⟨-1, rfl, Or.inl rfl⟩
    | succ m ih =>
      intro fu x hx hf
      obtain ⟨fu, rfl⟩ : ∃ g, fu = g + 1 := ⟨fu - 1, by omega⟩
      rw [F_X1_sameWithFewer_b2, if_neg (show ¬ (5 : Int32) ≤ nI x from nI_ge (b := 5) (by omega) (by decide)), wo_p j hj x (by omega), bnd_e]
      simp only [F_X1_sameWithFewer_b35, bnd_e, nI_1]
      have nx := ih fu (x + 1) (by omega) (by omega)
      by_cases c : tb j x = true
      · obtain ⟨q1, q2, q3⟩ := wo_q j hj x (by omega) c
        have hp : 0 < 2 ^ x := Nat.two_pow_pos x
        rw [if_pos c, if_neg (fun e => by have := (nI_eq (by omega) (by omega)).mp e; omega), grd_t (inBe (by omega) (by decide)), nIc (by omega), hS _ (by omega)]
        by_cases c2 : (S (j - 2 ^ x) >>> (nI x &&& 31)) &&& 1 = 0
        · rw [if_pos c2]
          refine ⟨_, rfl, Or.inr ⟨x, by omega, c, rfl, ?_⟩⟩
          simp [hasB, c2]
        · rw [if_neg c2]
          exact nx
      · rw [if_neg c, if_pos rfl]
        exact nx
  exact this 5 2000 0 (by omega) (by omega)
/-- the best set so far -/
def shB (V : Nat → Int32) : Nat → Nat × Int32
  | 0 => (0, -1)
  | j + 1 => if (shB V j).2 < V j ∨ (V j = (shB V j).2 ∧ pop j < pop (shB V j).1) then (j, V j) else shB V j
theorem shB_b {V : Nat → Int32} : ∀ j, (shB V j).1 ≤ j
  | 0 => Nat.le_refl 0
  | j + 1 => by
    rw [shB]
    split
    · show j ≤ j + 1
      omega
    · have := shB_b (V := V) j
      omega
theorem shB_i {V : Nat → Int32} : ∀ j i, i < j → V i < (shB V j).2 ∨ (V i = (shB V j).2 ∧ pop (shB V j).1 ≤ pop i)
  | 0, i, h => absurd h (by omega)
  | j + 1, i, h => by
    rw [shB]
    by_cases c : (shB V j).2 < V j ∨ (V j = (shB V j).2 ∧ pop j < pop (shB V j).1)
    · rw [if_pos c]
      show V i < V j ∨ (V i = V j ∧ pop j ≤ pop i)
      by_cases e : i = j
      · subst e
        exact Or.inr ⟨rfl, Nat.le_refl _⟩
      · rcases shB_i (V := V) j i (by omega) with g | g
        · left
          rcases c with c | c
          · rw [fa_lt] at *
            omega
          · rw [c.1]
            exact g
        · rcases c with c | c
          · left
            rw [g.1]
            exact c
          · exact Or.inr ⟨by rw [g.1, c.1], by omega⟩
    · rw [if_neg c]
      by_cases e : i = j
      · subst e
        have c1 : ¬ (shB V i).2 < V i := fun x => c (Or.inl x)
        rcases fa_three (V i) (shB V i).2 with g | g | g
        · exact Or.inl g
        · exact Or.inr ⟨g, by have : ¬ pop i < pop (shB V i).1 := fun x => c (Or.inr ⟨g, x⟩); omega⟩
        · exact absurd g c1
      · exact shB_i j i (by omega)
theorem shB_skip {V : Nat → Int32} {j i : Nat} (hi : i < j) (hV : V j = V i) (hp : pop i < pop j) : shB V (j + 1) = shB V j := by
  rw [shB, if_neg]
  rintro (g | g)
  · rcases shB_i (V := V) j i hi with k | k
    · rw [hV, fa_lt] at g
      rw [fa_lt] at k
      omega
    · rw [hV, k.1, fa_lt] at g
      omega
  · rcases shB_i (V := V) j i hi with k | k
    · rw [← hV, g.1, fa_lt] at k
      omega
    · have := k.2
      omega
theorem CfC.sh {D : Dt} {q : Nat} {c : Cf} {v : Int32} (h : CfC D q c) : CfC (setI D (8, q, 0, 0) 2 v) q (c.1, c.2.1, c.2.2.1, c.2.2.2.1, v, c.2.2.2.2.2) := by
  obtain ⟨x, h1, h2, h3, h4, h5, h6, h7, h8, h9, h10, h11⟩ := h
  have e : ∀ (la : LA) j, ¬ (la = (8, q, 0, 0) ∧ j = 2) → (setI D (8, q, 0, 0) 2 v).1 la j = D.1 la j := fun la j h => by rw [gI, if_neg h]
  refine ⟨x, h1, h2, h3, ?_, ?_, fun k w hk hw => ?_, ?_, gI_s, ?_, ?_, ?_⟩
  · rw [e _ _ (by simp)]; exact h4
  · rw [e _ _ (by simp)]; exact h5
  · rw [e _ _ (by simp), e _ _ (by simp)]; exact h6 k w hk hw
  · rcases h7 with ⟨a, b⟩ | ⟨j, R, a, b, d, f, g⟩
    · exact Or.inl ⟨a, b⟩
    · exact Or.inr ⟨j, R, a, b, d, f, g.sm (S := fun la k => la == (8, q, 0, 0)) (Sm.sI (by simp)) (fun q k _ => by simp)⟩
  · rw [e _ _ (by simp)]; exact h9
  · rw [e _ _ (by simp)]; exact h10
  · rw [e _ _ (by simp)]; exact h11
