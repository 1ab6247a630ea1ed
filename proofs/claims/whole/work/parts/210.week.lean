/-! ===== a WEEK, told once for both ===== -/
def soo (t : Nat → Int32) (w : Nat) : Nat → Nat → Int32
  | 0, _ => 99
  | m + 1, v => if t v ≤ 0 then soo t w m (v + 1) else nI (v - w)
def soP (t : Nat → Int32) (w : Nat) : Int32 := soo t w (60 - w) (w + 1)
def tlP (t : Nat → Int32) (w : Nat) : Int32 := if w < 61 then t w else 0
/-- LANDS, stale, told, RULE, shunned, idle, chooser, choice -/
abbrev Cf : Type := Nat × Int32 × (Nat → Nat → Int32) × Option Rl × Int32 × Int32 × Int32 × Int32
def cfN (c : Cf) : Nat := c.1
def cfS (c : Cf) : Int32 := c.2.1
def cfT (c : Cf) : Nat → Nat → Int32 := c.2.2.1
def cfR (c : Cf) : Option Rl := c.2.2.2.1
def cfH (c : Cf) : Int32 := c.2.2.2.2.1
def cfI (c : Cf) : Int32 := c.2.2.2.2.2.1
def cfC (c : Cf) : Int32 := c.2.2.2.2.2.2.1
def cfO (c : Cf) : Int32 := c.2.2.2.2.2.2.2
def wkN (s : St) : Nat := (s 5 1).toNatClampNeg
def wd (c : Cf) (s : St) (a b : Nat) : Nat → Int64 := fun k => if k = 0 then (nI a).toInt64 else if k = 1 then (nI b).toInt64 else if k = 2 then (s 0 a).toInt64 else if k = 3 then (s 1 a).toInt64 else if k = 4 then (s 2 a).toInt64 else if k = 5 then (s 3 a).toInt64 else if k = 6 then (s 0 b).toInt64 else if k = 7 then (s 1 b).toInt64 else if k = 8 then (s 2 b).toInt64 else if k = 9 then (s 5 0).toInt64 else if k = 10 then (soP (cfT c a) (wkN s)).toInt64 else (s 5 1).toInt64
def lkP (c : Cf) (s : St) (a b : Nat) : Int64 := match cfR c with
  | none => if 1 ≤ s 2 a ∧ s 1 a ≤ 0 then (s 1 b).toInt64 else 0
  | some R => rlv R (wd c s a b)
def pk1 (c : Cf) (s : St) (a : Nat) : Nat → Int32 × Int64
  | 0 => (-1, 0)
  | b + 1 => if (pMay s a b = true ∧ hasB (cfH c) b = false) ∧ ¬ lkP c s a b ≤ (pk1 c s a b).2 then (nI b, lkP c s a b) else pk1 c s a b
def pkP (c : Cf) (m : Bool) (s : St) (a : Nat) : Int32 := if nI a = cfC c then (if (m = false ∧ inB (cfO c) (cfN c) = true) ∧ pMay s a (cfO c).toNatClampNeg = true then cfO c else -1) else if hasB (cfI c) a = true then -1 else (pk1 c s a (cfN c)).1
def pkM (c : Cf) (m : Bool) (s : St) (a : Nat) : Bool := if nI a = cfC c ∧ inB (cfO c) (cfN c) = true ∧ pMay s a (cfO c).toNatClampNeg = false then true else m
abbrev Wq : Type := St × Int32 × Bool × Int32
def wB1 (c : Cf) (a : Nat) (x : Wq) : Wq := if pkP c x.2.2.1 x.1 a = -1 then (up x.1 4 a (-1), x.2.1, pkM c x.2.2.1 x.1 a, x.2.2.2) else (pBuy (up x.1 4 a (pkP c x.2.2.1 x.1 a)) a (pkP c x.2.2.1 x.1 a).toNatClampNeg, x.2.1 + 1, pkM c x.2.2.1 x.1 a, x.2.2.2 ||| (1 <<< (pkP c x.2.2.1 x.1 a &&& 31)))
def wA1 (c : Cf) (k : Nat) (s : St) : St := pAddS s k (tlP (cfT c k) (wkN s))
def wC1 (c : Cf) (k : Nat) (s : St) : St := up (pHarv s k) 1 k (if pHarv s k 1 k < cfS c then pHarv s k 1 k else cfS c)
def wkA (c : Cf) (s : St) : St := itr (wA1 c) (cfN c) s
def wkB (c : Cf) (x : Wq) : Wq := itr (wB1 c) (cfN c) x
def wkC (c : Cf) (s : St) : St := itr (wC1 c) (cfN c) s
def pWk (c : Cf) (m : Bool) (s : St) (se : Int32) : Wq := (up (wkC c (wkB c (wkA c s, 0, m, se)).1) 5 1 (wkC c (wkB c (wkA c s, 0, m, se)).1 5 1 + 1), (wkB c (wkA c s, 0, m, se)).2)
/-! whom one picks lies in 0 .. n - 1 or is none -/
theorem pk1_rng {c : Cf} {s : St} {a : Nat} : ∀ n, (pk1 c s a n).1 = -1 ∨ ∃ b, b < n ∧ (pk1 c s a n).1 = nI b ∧ pMay s a b = true ∧ hasB (cfH c) b = false
  | 0 => Or.inl rfl
  | n + 1 => by
    rw [pk1]
    split
    · rename_i h
      exact Or.inr ⟨n, by omega, rfl, h.1.1, h.1.2⟩
    · rcases pk1_rng n with h | ⟨b, h1, h2⟩
      · exact Or.inl h
      · exact Or.inr ⟨b, by omega, h2⟩
theorem pk1_no {c : Cf} {s : St} {a : Nat} : ∀ n, (∀ b, b < n → ¬ ((pMay s a b = true ∧ hasB (cfH c) b = false) ∧ ¬ lkP c s a b ≤ 0)) → pk1 c s a n = (-1, 0)
  | 0, _ => rfl
  | n + 1, h => by
    rw [pk1, pk1_no n (fun b hb => h b (by omega)), if_neg (h n (by omega))]
theorem pkP_rng {c : Cf} {m : Bool} {s : St} {a : Nat} : pkP c m s a = -1 ∨ ∃ b, b < cfN c ∧ pkP c m s a = nI b ∧ pMay s a b = true := by
  unfold pkP
  by_cases h1 : nI a = cfC c
  · rw [if_pos h1]
    by_cases h2 : (m = false ∧ inB (cfO c) (cfN c) = true) ∧ pMay s a (cfO c).toNatClampNeg = true
    · rw [if_pos h2]
      by_cases hn : cfN c < 2147483648
      · obtain ⟨j, hj, e⟩ := inB_ex h2.1.2 hn
        rw [e] at h2 ⊢
        rw [nIc (by omega)] at h2
        exact Or.inr ⟨j, hj, rfl, h2.2⟩
      · have hz := h2.1.2
        simp only [inB, Bool.and_eq_true, decide_eq_true_eq] at hz
        refine Or.inr ⟨(cfO c).toNatClampNeg, ?_, ?_, h2.2⟩
        · have : (cfO c).toInt < 2147483648 := (fb_rng _).2
          have e2 : (cfO c).toNatClampNeg = (cfO c).toInt.toNat := rfl
          omega
        · obtain ⟨j, hj, e⟩ := nI_of (x := cfO c) (by rw [fa_lt]; have : (0 : Int32).toInt = 0 := rfl; omega)
          rw [e, nIc hj]
    · rw [if_neg h2]
      exact Or.inl rfl
  · rw [if_neg h1]
    split
    · exact Or.inl rfl
    · rcases pk1_rng (c := c) (s := s) (a := a) (cfN c) with h | ⟨b, h1, h2, h3, _⟩
      · exact Or.inl h
      · exact Or.inr ⟨b, h1, h2, h3⟩
/-! ===== the class's Weeks ===== -/
def weS (q i : Nat) : LA → Nat → Bool := fun la k => (la.1 == 6 && la.2.1 == i) || (la.1 == 8 && la.2.1 == q && (la.2.2.1 == 9 || (k == 6 || k == 7))) || (la.1 == 3 && la.2.2.1 == 8)
theorem weS_st {q i : Nat} (la : LA) (k : Nat) (h : weS q i la k = false) : stS i la k = false := by
  simp only [weS, stS, Bool.or_eq_false_iff] at h ⊢
  exact h.1.1
def CfC (D : Dt) (q : Nat) (c : Cf) : Prop := ∃ x, D.2.2 (8, q, 0, 0) 0 = some x ∧ V (5, x, 0, 0) = true ∧ cfN c ≤ 5 ∧ D.1 (5, x, 0, 0) 3 = nI (cfN c) ∧ D.1 (5, x, 0, 0) 2 = cfS c ∧ (∀ k v, k < 5 → v < 61 → D.1 (5, x, 8, k + 1) v = cfT c k v ∧ D.1 (5, x, 9, k + 1) v = soP (cfT c k) v) ∧ ((cfR c = none ∧ D.2.2 (8, q, 0, 0) 1 = none) ∨ ∃ j R, cfR c = some R ∧ D.2.2 (8, q, 0, 0) 1 = some j ∧ V (3, j, 0, 0) = true ∧ RWf R ∧ CR D j R) ∧ D.1 (8, q, 0, 0) 2 = cfH c ∧ D.1 (8, q, 0, 0) 3 = cfI c ∧ D.1 (8, q, 0, 0) 4 = cfC c ∧ D.1 (8, q, 0, 0) 5 = cfO c
theorem CR.sm {S : LA → Nat → Bool} {D D' : Dt} {j : Nat} {R : Rl} (h : CR D j R) (hs : Sm S D D') (hz : ∀ q k, q < 8 → S (3, j, q, 0) k = false) : CR D' j R := by
  obtain ⟨h1, h2, h3, h4⟩ := h
  refine ⟨?_, ?_, ?_, fun c hc => ?_⟩
  · rw [hs.i (hz 0 _ (by decide)), h1]
  · funext k
    rw [hs.i (hz 1 _ (by decide)), h2]
  · funext k
    rw [hs.i (hz 2 _ (by decide)), h3]
  · rw [hs.i (hz 4 _ (by decide)), hs.i (hz 5 _ (by decide)), hs.i (hz 6 _ (by decide))]
    exact h4 c hc
theorem CfC.sm {D D' : Dt} {q i : Nat} {c : Cf} (h : CfC D q c) (hs : Sm (weS q i) D D') : CfC D' q c := by
  obtain ⟨x, h1, h2, h3, h4, h5, h6, h7, h8, h9, h10, h11⟩ := h
  have e8 : ∀ k, k < 6 → weS q i (8, q, 0, 0) k = false := by
    intro k hk
    have a1 : ¬ k = 6 := by omega
    have a2 : ¬ k = 7 := by omega
    simp [weS, a1, a2]
  have e5 : ∀ a b k, weS q i (5, x, a, b) k = false := fun a b k => by simp [weS]
  refine ⟨x, ?_, h2, h3, ?_, ?_, ?_, ?_, ?_, ?_, ?_, ?_⟩
  · rw [hs.r (e8 0 (by decide)), h1]
  · rw [hs.i (e5 _ _ _), h4]
  · rw [hs.i (e5 _ _ _), h5]
  · intro k v hk hv
    rw [hs.i (e5 _ _ _), hs.i (e5 _ _ _)]
    exact h6 k v hk hv
  · rcases h7 with ⟨a, b⟩ | ⟨j, R, a, b, d, e, f⟩
    · exact Or.inl ⟨a, by rw [hs.r (e8 1 (by decide)), b]⟩
    · refine Or.inr ⟨j, R, a, by rw [hs.r (e8 1 (by decide)), b], d, e, f.sm hs (fun q' k hq => ?_)⟩
      have : ¬ q' = 8 := by omega
      simp [weS, this]
  · rw [hs.i (e8 2 (by decide)), h8]
  · rw [hs.i (e8 3 (by decide)), h9]
  · rw [hs.i (e8 4 (by decide)), h10]
  · rw [hs.i (e8 5 (by decide)), h11]
theorem SmL.we {la : LA} {q i : Nat} {D D' : Dt} (h : SmL la D D') (hl : ∀ k, weS q i la k = true) : Sm (weS q i) D D' := by
  intro l k e
  refine ⟨by rw [h.1], ?_, by rw [h.2.1]⟩
  by_cases hl2 : l = la
  · subst hl2
    rw [hl k] at e
    cases e
  · rw [h.2.2 l hl2]
theorem c_within {a b d : Int32} {D : Dt} : F_X10_within a b d D = some (if b ≤ a ∧ a ≤ d then 1 else 0, D) := by
  unfold F_X10_within
  by_cases h1 : a < b
  · rw [if_pos h1, if_neg (fun h => (fa_of_lt h1).2.1 h.1)]
  · rw [if_neg h1]
    by_cases h2 : d < a
    · rw [if_pos h2, if_neg (fun h => (fa_of_lt h2).2.1 h.2)]
    · rw [if_neg h2, if_pos ⟨fa_of_nlt h1, fa_of_nlt h2⟩]
theorem win_n {w n m : Nat} (hw : w < 2147483648) (hn : n < 2147483648) (hm : m < 2147483648) : (nI n ≤ nI w ∧ nI w ≤ nI m) ↔ (n ≤ w ∧ w ≤ m) := by rw [nI_leI hn hw, nI_leI hw hm]
theorem c_soonOf {D : Dt} {x a w : Nat} {t : Nat → Nat → Int32} (hx : V (5, x, 0, 0) = true) (ha : a < 5) (hw : w < 2147483648) (h : ∀ k v, k < 5 → v < 61 → D.1 (5, x, 9, k + 1) v = soP (t k) v) : F_X5_soonOf x (nI a) (nI w) D = some (soP (t a) w, D) := by
  rw [F_X5_soonOf, grd_t hx, c_within, cbd_s]
  have e : ((0 : Int32) ≤ nI w ∧ nI w ≤ (60 : Int32)) ↔ (0 ≤ w ∧ w ≤ 60) := win_n (n := 0) (m := 60) hw (by decide) (by decide)
  by_cases c : w ≤ 60
  · rw [if_pos (e.mpr ⟨by omega, c⟩), if_neg (by decide), grd_t (inBe ha (by decide)), grd_t (inBe (show w < 61 by omega) (by decide)), nIc hw, nIc (by omega), h a w ha (by omega)]
  · rw [if_neg (fun g => c (e.mp g).2), if_pos rfl]
    rw [soP, show 60 - w = 0 by omega, soo]
theorem c_toldFor {D : Dt} {x a w : Nat} {t : Nat → Nat → Int32} (hx : V (5, x, 0, 0) = true) (ha : a < 5) (hw : w < 2147483648) (h : ∀ k v, k < 5 → v < 61 → D.1 (5, x, 8, k + 1) v = t k v) : F_X5_toldFor x (nI a) (nI w) D = some (tlP (t a) w, D) := by
  rw [F_X5_toldFor, grd_t hx, c_within, cbd_s]
  have e : ((0 : Int32) ≤ nI w ∧ nI w ≤ (60 : Int32)) ↔ (0 ≤ w ∧ w ≤ 60) := win_n (n := 0) (m := 60) hw (by decide) (by decide)
  by_cases c : w ≤ 60
  · rw [if_pos (e.mpr ⟨by omega, c⟩), if_neg (by decide), grd_t (inBe ha (by decide)), grd_t (inBe (show w < 61 by omega) (by decide)), nIc hw, nIc (by omega), h a w ha (by omega), tlP, if_pos (by omega)]
  · rw [if_neg (fun g => c (e.mp g).2), if_pos rfl, tlP, if_neg (by omega)]
