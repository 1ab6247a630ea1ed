/-! ===== how a RULE is reckoned ===== -/
def jn (op : Int32) (a b : Int64) : Int64 := if op = 7 then a + b else if op = 8 then a - b else if op = 9 then a * b else if op = 10 then (if b = 0 then 0 else a / b) else if op = 11 then (if b = 0 then 0 else a - a / b * b) else if op = 12 then (if b ≤ a then 0 else 1) else if op = 13 then (if a = b then 1 else 0) else if op = 14 then (if a ≤ b then 0 else 1) else if op = 15 then (if b < a then 0 else 1) else if op = 16 then (if a < b then 0 else 1) else if op = 36 then a &&& b else if op = 37 then a ||| b else 0
theorem gr_if {α : Type} {c : Prop} [Decidable c] {a b : α} {D : Dt} : (if c then some (a, D) else grd (¬ c) (some (b, D))) = some ((if c then a else b), D) := by
  by_cases h : c
  · rw [if_pos h, if_pos h]
  · rw [if_neg h, if_neg h, grd_t h]
theorem if_so {α : Type} {c : Prop} [Decidable c] {a b : α} {D : Dt} : (if c then some (a, D) else some (b, D)) = some ((if c then a else b), D) := by
  by_cases h : c
  · rw [if_pos h, if_pos h]
  · rw [if_neg h, if_neg h]
theorem c_joined {op : Int32} {a b : Int64} {D : Dt} : F_X3_joined op a b D = some (jn op a b, D) := by
  simp only [F_X3_joined, lg_cmp_ge, lg_cmp_le, lg_cmp_gt, lg_cmp_lt, lg_cmp_eq, jn, gr_if, if_so]
/-- the class's signs in the reference's numbers -/
def cm (op : Int32) : Int32 := if op = 1 then 0 else if op = 20 then 1 else if op = 7 then 2 else if op = 8 then 3 else if op = 12 then 4 else if op = 15 then 5 else if op = 13 then 6 else if op = 16 then 7 else if op = 14 then 8 else if op = 35 then 9 else if op = 36 then 10 else if op = 37 then 11 else if op = 9 then 13 else if op = 10 then 14 else if op = 11 then 15 else 12
def isAr (op : Int32) : Bool := decide (op = 7 ∨ op = 8 ∨ op = 9 ∨ op = 10 ∨ op = 11)
def isCp (op : Int32) : Bool := decide (op = 12 ∨ op = 13 ∨ op = 14 ∨ op = 15 ∨ op = 16)
def isLg (op : Int32) : Bool := decide (op = 36 ∨ op = 37)
theorem r_truth {D : Dt} {c : Prop} [Decidable c] : F_X11_truth (if c then 0 else 1) D = some ((if c then 0 else 1), D) := by
  by_cases h : c
  · rw [if_pos h, if_pos h]; rfl
  · rw [if_neg h, if_neg h]; rfl
theorem r_both {op : Int32} {a b : Int64} {D : Dt} (h : isAr op = true ∨ isCp op = true ∨ isLg op = true) : F_X11_both (cm op) a b D = some (jn op a b, D) := by
  have t0 : F_X11_truth 0 D = some (0, D) := rfl
  have t1 : F_X11_truth 1 D = some (1, D) := rfl
  simp only [isAr, isCp, isLg, decide_eq_true_eq] at h
  rcases h with (rfl | rfl | rfl | rfl | rfl) | (rfl | rfl | rfl | rfl | rfl) | (rfl | rfl)
  all_goals
    simp only [cm, jn]
    simp [F_X11_both, F_X11_both_b123, F_X11_both_b138, F_X11_both_b153, F_X11_both_b168, F_X11_both_b183, lg_cmp_ge, lg_cmp_le, lg_cmp_gt, lg_cmp_lt, lg_cmp_eq, t0, t1, cbd_s, gr_if, if_so]
    try (split <;> simp_all [grd])
/-- one sign after the other: a stack of values -/
def ev1 (w : Nat → Int64) (e : Int32 × Int32) (st : List Int64) : List Int64 := if e.1 = 1 then e.2.toInt64 :: st else if e.1 = 20 then w e.2.toNatClampNeg :: st else match st with
  | [] => []
  | [b] => if e.1 = 35 then [1 - b] else [b]
  | b :: a :: r => if e.1 = 35 then (1 - b) :: a :: r else jn e.1 a b :: r
def ev (w : Nat → Int64) : List (Int32 × Int32) → List Int64 → List Int64
  | [], st => st
  | e :: p, st => ev w p (ev1 w e st)
/-- what stands on the stack: true where it is 0 or 1 -/
def ty1 (e : Int32 × Int32) (ts : List Bool) : Option (List Bool) := if e.1 = 1 then some (false :: ts) else if e.1 = 20 then (if inB e.2 12 = true then some (false :: ts) else none) else match ts with
  | [] => none
  | [b] => if e.1 = 35 ∧ b = true then some [true] else none
  | b :: a :: r => if e.1 = 35 then (if b = true then some (true :: a :: r) else none) else if isAr e.1 = true then some (false :: r) else if isCp e.1 = true then some (true :: r) else if isLg e.1 = true ∧ a = true ∧ b = true then some (true :: r) else none
def ty : List (Int32 × Int32) → List Bool → Option (List Bool)
  | [], ts => some ts
  | e :: p, ts => match ty1 e ts with
    | some ts' => ty p ts'
    | none => none
/-- how many values are put -/
def nv : List (Int32 × Int32) → Nat
  | [] => 0
  | e :: p => (if e.1 = 1 ∨ e.1 = 20 then 1 else 0) + nv p
def sg (f g : Nat → Int32) : Nat → Nat → List (Int32 × Int32)
  | _, 0 => []
  | lo, n + 1 => (f lo, g lo) :: sg f g (lo + 1) n
theorem ev_app (w : Nat → Int64) : ∀ (p q : List (Int32 × Int32)) (st : List Int64), ev w (p ++ q) st = ev w q (ev w p st)
  | [], _, _ => rfl
  | e :: p, q, st => ev_app w p q (ev1 w e st)
theorem ty_app : ∀ (p q : List (Int32 × Int32)) (ts ts' : List Bool), ty p ts = some ts' → ty (p ++ q) ts = ty q ts'
  | [], _, ts, ts', h => by
    simp only [ty, Option.some.injEq] at h
    subst h
    rfl
  | e :: p, q, ts, ts', h => by
    simp only [ty, List.cons_append] at h ⊢
    cases h1 : ty1 e ts with
    | none => rw [h1] at h; cases h
    | some t => rw [h1] at h; exact ty_app p q t ts' h
theorem nv_app : ∀ (p q : List (Int32 × Int32)), nv (p ++ q) = nv p + nv q
  | [], q => by simp [nv]
  | e :: p, q => by simp only [List.cons_append, nv, nv_app p q]; omega
/-- the stack's values are as ts says -/
def tv : List Int64 → List Bool → Prop
  | [], [] => True
  | v :: st, b :: ts => (b = true → v = 0 ∨ v = 1) ∧ tv st ts
  | _, _ => False
theorem tv_len : ∀ {st : List Int64} {ts : List Bool}, tv st ts → st.length = ts.length
  | [], [], _ => rfl
  | v :: st, b :: ts, h => by simp only [List.length_cons, tv_len h.2]
  | [], b :: ts, h => h.elim
  | v :: st, [], h => h.elim
theorem jn01 {op : Int32} (a b : Int64) (h : isCp op = true) : jn op a b = 0 ∨ jn op a b = 1 := by
  simp only [isCp, decide_eq_true_eq] at h
  have i01 : ∀ (c : Prop) [Decidable c], ((if c then (0 : Int64) else 1) = 0 ∨ (if c then (0 : Int64) else 1) = 1) := by
    intro c _
    by_cases h : c <;> simp [h]
  have i02 : ∀ (c : Prop) [Decidable c], ((if c then (1 : Int64) else 0) = 0 ∨ (if c then (1 : Int64) else 0) = 1) := by
    intro c _
    by_cases h : c <;> simp [h]
  rcases h with rfl | rfl | rfl | rfl | rfl <;> first | exact i01 _ | exact i02 _
theorem jnlg {op : Int32} {a b : Int64} (h : isLg op = true) (ha : a = 0 ∨ a = 1) (hb : b = 0 ∨ b = 1) : jn op a b = 0 ∨ jn op a b = 1 := by
  simp only [isLg, decide_eq_true_eq] at h
  rcases h with rfl | rfl <;> rcases ha with rfl | rfl <;> rcases hb with rfl | rfl <;> decide
theorem ev1_tv {w : Nat → Int64} {e : Int32 × Int32} {st : List Int64} {ts ts' : List Bool} (h : tv st ts) (h2 : ty1 e ts = some ts') : tv (ev1 w e st) ts' := by
  unfold ty1 at h2
  unfold ev1
  by_cases c1 : e.1 = 1
  · rw [if_pos c1] at h2 ⊢
    simp only [Option.some.injEq] at h2
    subst h2
    exact ⟨fun h => (by cases h), h⟩
  · rw [if_neg c1] at h2 ⊢
    by_cases c2 : e.1 = 20
    · rw [if_pos c2] at h2 ⊢
      by_cases c3 : inB e.2 12 = true
      · rw [if_pos c3] at h2
        simp only [Option.some.injEq] at h2
        subst h2
        exact ⟨fun h => (by cases h), h⟩
      · rw [if_neg c3] at h2
        cases h2
    · rw [if_neg c2] at h2 ⊢
      match st, ts, h with
      | [], [], _ => cases h2
      | [v], [b], h =>
        simp only at h2 ⊢
        by_cases c3 : e.1 = 35 ∧ b = true
        · rw [if_pos c3] at h2
          simp only [Option.some.injEq] at h2
          subst h2
          rw [if_pos c3.1]
          refine ⟨fun _ => ?_, trivial⟩
          rcases h.1 c3.2 with rfl | rfl <;> decide
        · rw [if_neg c3] at h2
          cases h2
      | v :: u :: st, b :: a :: ts, h =>
        simp only at h2 ⊢
        obtain ⟨hb, ha, hr⟩ := h
        by_cases c3 : e.1 = 35
        · rw [if_pos c3] at h2 ⊢
          by_cases c4 : b = true
          · rw [if_pos c4] at h2
            simp only [Option.some.injEq] at h2
            subst h2
            refine ⟨fun _ => ?_, ha, hr⟩
            rcases hb c4 with rfl | rfl <;> decide
          · rw [if_neg c4] at h2
            cases h2
        · rw [if_neg c3] at h2 ⊢
          by_cases c4 : isAr e.1 = true
          · rw [if_pos c4] at h2
            simp only [Option.some.injEq] at h2
            subst h2
            exact ⟨fun h => (by cases h), hr⟩
          · rw [if_neg c4] at h2
            by_cases c5 : isCp e.1 = true
            · rw [if_pos c5] at h2
              simp only [Option.some.injEq] at h2
              subst h2
              exact ⟨fun _ => jn01 _ _ c5, hr⟩
            · rw [if_neg c5] at h2
              by_cases c6 : isLg e.1 = true ∧ a = true ∧ b = true
              · rw [if_pos c6] at h2
                simp only [Option.some.injEq] at h2
                subst h2
                exact ⟨fun _ => jnlg c6.1 (ha c6.2.1) (hb c6.2.2), hr⟩
              · rw [if_neg c6] at h2
                cases h2
theorem ev_tv {w : Nat → Int64} : ∀ {p : List (Int32 × Int32)} {st : List Int64} {ts ts' : List Bool}, tv st ts → ty p ts = some ts' → tv (ev w p st) ts'
  | [], st, ts, ts', h, h2 => by
    simp only [ty, Option.some.injEq] at h2
    subst h2
    exact h
  | e :: p, st, ts, ts', h, h2 => by
    simp only [ty] at h2
    cases h1 : ty1 e ts with
    | none => rw [h1] at h2; cases h2
    | some t => rw [h1] at h2; exact ev_tv (p := p) (ev1_tv h h1) h2
