/-! ===== LOOK ===== -/
def caN (P : Nat → Bool) (g : Nat → Int32) (a : Nat) : Nat → Nat
  | 0 => 0
  | b + 1 => caN P g a b + (if (P a = true ∧ P b = true) ∧ g a = g b then 1 else 0)
def moN (P : Nat → Bool) (g : Nat → Int32) (N : Nat) : Nat → Nat
  | 0 => 0
  | a + 1 => if moN P g N a < caN P g a N then caN P g a N else moN P g N a
def caM (S : Nat → Int32) (v : Int32) : Nat → Nat
  | 0 => 0
  | k + 1 => caM S v k + (if S k = v then 1 else 0)
def moM (S : Nat → Int32) (N : Nat) : Nat → Nat
  | 0 => 0
  | i + 1 => if moM S N i < caM S (S i) N then caM S (S i) N else moM S N i
theorem caN_b {P : Nat → Bool} {g : Nat → Int32} {a : Nat} : ∀ b, caN P g a b ≤ b
  | 0 => Nat.le_refl 0
  | b + 1 => by
    have := caN_b (P := P) (g := g) (a := a) b
    rw [caN]
    split <;> omega
theorem moN_b {P : Nat → Bool} {g : Nat → Int32} {N : Nat} : ∀ a, moN P g N a ≤ N
  | 0 => Nat.zero_le N
  | a + 1 => by
    rw [moN]
    split
    · exact caN_b N
    · exact moN_b a
theorem caM_b {S : Nat → Int32} {v : Int32} : ∀ b, caM S v b ≤ b
  | 0 => Nat.le_refl 0
  | b + 1 => by
    have := caM_b (S := S) (v := v) b
    rw [caM]
    split <;> omega
theorem moM_b {S : Nat → Int32} {N : Nat} : ∀ a, moM S N a ≤ N
  | 0 => Nat.zero_le N
  | a + 1 => by
    rw [moM]
    split
    · exact caM_b N
    · exact moM_b a
theorem caN_no {P : Nat → Bool} {g : Nat → Int32} {a : Nat} (h : ¬ P a = true) : ∀ b, caN P g a b = 0
  | 0 => rfl
  | b + 1 => by rw [caN, caN_no h b, if_neg (fun x => h x.1.1)]
theorem ca_eq {P : Nat → Bool} {g S : Nat → Int32} {a : Nat} (ha : P a = true) : ∀ T, (∀ t, t < T → P t = true → S (cnF P t) = g t) → caM S (g a) (cnF P T) = caN P g a T
  | 0, _ => rfl
  | T + 1, h => by
    have ih := ca_eq (P := P) (g := g) (S := S) ha T (fun t ht => h t (by omega))
    rw [caN, cnF]
    by_cases c : P T = true
    · rw [if_pos c, caM, ih, h T (by omega) c]
      by_cases c2 : g a = g T
      · rw [if_pos c2.symm, if_pos ⟨⟨ha, c⟩, c2⟩]
      · rw [if_neg (fun x => c2 x.symm), if_neg (fun x => c2 x.2)]
    · rw [if_neg c, if_neg (fun x => c x.1.2)]
      exact ih
theorem mo_eq {P : Nat → Bool} {g S : Nat → Int32} {N : Nat} (h : ∀ t, t < N → P t = true → S (cnF P t) = g t) : ∀ T, T ≤ N → moM S (cnF P N) (cnF P T) = moN P g N T
  | 0, _ => rfl
  | T + 1, hT => by
    have ih := mo_eq h T (by omega)
    rw [moN, cnF]
    by_cases c : P T = true
    · rw [if_pos c, moM, ih, h T (by omega) c, ca_eq c N h]
    · rw [if_neg c, caN_no c, if_neg (by omega)]
      exact ih
/-- the first of the least -/
def lkI (al : Nat → Nat) : Nat → Nat
  | 0 => 0
  | k + 1 => if al (k + 1) < al (lkI al k) then k + 1 else lkI al k
theorem lkI_b {al : Nat → Nat} : ∀ k, lkI al k ≤ k
  | 0 => Nat.le_refl 0
  | k + 1 => by
    rw [lkI]
    split
    · exact Nat.le_refl _
    · have := lkI_b (al := al) k
      omega
theorem caN_cut {P Q : Nat → Bool} {g : Nat → Int32} {N a : Nat} (ha : a < N) (h1 : ∀ t, t < N → Q t = P t) (h2 : ∀ t, N ≤ t → ¬ Q t = true) : ∀ T, caN Q g a T = caN P g a (min T N)
  | 0 => congrArg (caN P g a) (show (0 : Nat) = min 0 N by omega)
  | T + 1 => by
    have ih := caN_cut (g := g) ha h1 h2 T
    by_cases c : T < N
    · rw [show min (T + 1) N = T + 1 by omega]
      show caN Q g a T + (if (Q a = true ∧ Q T = true) ∧ g a = g T then 1 else 0) = caN P g a T + (if (P a = true ∧ P T = true) ∧ g a = g T then 1 else 0)
      rw [ih, h1 T c, h1 a ha, show min T N = T by omega]
    · rw [show min (T + 1) N = min T N by omega, ← ih]
      show caN Q g a T + (if (Q a = true ∧ Q T = true) ∧ g a = g T then 1 else 0) = caN Q g a T
      rw [if_neg (fun x => h2 T (by omega) x.1.2), Nat.add_zero]
theorem moN_cut {P Q : Nat → Bool} {g : Nat → Int32} {N M : Nat} (h1 : ∀ t, t < N → Q t = P t) (h2 : ∀ t, N ≤ t → ¬ Q t = true) : ∀ T, moN Q g M T = moN P g (min M N) (min T N)
  | 0 => congrArg (moN P g (min M N)) (show (0 : Nat) = min 0 N by omega)
  | T + 1 => by
    have ih := moN_cut (g := g) (M := M) h1 h2 T
    by_cases c : T < N
    · rw [show min (T + 1) N = T + 1 by omega]
      show (if moN Q g M T < caN Q g T M then caN Q g T M else moN Q g M T) = (if moN P g (min M N) T < caN P g T (min M N) then caN P g T (min M N) else moN P g (min M N) T)
      rw [ih, caN_cut c h1 h2 M, show min T N = T by omega]
    · rw [show min (T + 1) N = min T N by omega, ← ih]
      show (if moN Q g M T < caN Q g T M then caN Q g T M else moN Q g M T) = moN Q g M T
      rw [caN_no (h2 T (by omega)) M, if_neg (Nat.not_lt_zero _)]
theorem c_mostAlike {D : Dt} {k : Nat} {P : Nat → Bool} {g : Nat → Int32} (hk : k < 5) (h8 : ∀ t, t < 7 → D.1 (1, 0, 8, 0) t = (if P t = true then 1 else 0)) (h9 : ∀ t, t < 7 → P t = true → D.1 (1, 0, 9, t + 1) k = g t) : F_X1_mostAlike (nI k) D = some (nI (moN P g 7 7), D) := by
  have inner : ∀ (l2 : Int32) (a : Nat) (kk : Int32 → Int32 → Int32 → Int32 → Dt → Option (Int32 × Dt)), a < 7 → ∀ (m fu b : Nat), b + m = 7 → m < fu → F_X1_mostAlike_b19 (nI k) kk fu (nI k) l2 (nI a) (nI (caN P g a b)) (nI b) D = kk (nI k) l2 (nI a) (nI (caN P g a 7)) D := by
    intro l2 a kk ha m
    induction m with
    | zero =>
      intro fu b hb hf
      obtain ⟨fu, rfl⟩ : ∃ g, fu = g + 1 := ⟨fu - 1, by omega⟩
      have : b = 7 := by omega
      subst this
      rw [F_X1_mostAlike_b19, if_pos (show (7 : Int32) ≤ nI 7 by decide)]
    | succ m ih =>
      intro fu b hb hf
      obtain ⟨fu, rfl⟩ : ∃ g, fu = g + 1 := ⟨fu - 1, by omega⟩
      have nx := ih fu (b + 1) (by omega) (by omega)
      rw [F_X1_mostAlike_b19, if_neg (show ¬ (7 : Int32) ≤ nI b from nI_ge (b := 7) (by omega) (by decide)), grd_t (inBe (show a < 7 by omega) (by decide)), grd_t (inBe (show b < 7 by omega) (by decide)), grd_t (inBe hk (by decide)), nIc (k := a) (by omega), nIc (k := b) (by omega), nIc (k := k) (by omega), h8 a ha, h8 b (by omega)]
      simp only [F_X1_mostAlike_b71, bnd_e, nI_1]
      rw [caN] at nx
      by_cases c1 : P a = true
      · rw [i1t c1]
        by_cases c2 : P b = true
        · rw [i1t c2, h9 a ha c1, h9 b (by omega) c2]
          by_cases c3 : g a = g b
          · rw [if_pos c3]
            rw [if_pos ⟨⟨c1, c2⟩, c3⟩] at nx
            exact nx
          · rw [if_neg c3]
            rw [if_neg (fun x => c3 x.2)] at nx
            exact nx
        · rw [i1f c2]
          rw [if_neg (fun x => c2 x.1.2)] at nx
          exact nx
      · rw [i1f c1]
        rw [if_neg (fun x => c1 x.1.1)] at nx
        exact nx
  have outer : ∀ (m fu a : Nat), a + m = 7 → m < fu → F_X1_mostAlike_b4 (nI k) fu (nI k) (nI (moN P g 7 a)) (nI a) D = some (nI (moN P g 7 7), D) := by
    intro m
    induction m with
    | zero =>
      intro fu a ha hf
      obtain ⟨fu, rfl⟩ : ∃ g, fu = g + 1 := ⟨fu - 1, by omega⟩
      have : a = 7 := by omega
      subst this
      rw [F_X1_mostAlike_b4, if_pos (show (7 : Int32) ≤ nI 7 by decide)]
    | succ m ih =>
      intro fu a ha hf
      obtain ⟨fu, rfl⟩ : ∃ g, fu = g + 1 := ⟨fu - 1, by omega⟩
      have nx := ih fu (a + 1) (by omega) (by omega)
      have hb1 := caN_b (P := P) (g := g) (a := a) 7
      have hb2 := moN_b (P := P) (g := g) (N := 7) a
      rw [F_X1_mostAlike_b4, if_neg (show ¬ (7 : Int32) ≤ nI a from nI_ge (b := 7) (by omega) (by decide))]
      have e := inner (nI (moN P g 7 a)) a (fun l1_35 l2_36 l3_37 l4_38 D39 => (bnd (if l2_36 < l4_38 then l4_38 else l2_36) (fun v40 => (bnd (l3_37 + (1 : Int32)) (fun v41 => (F_X1_mostAlike_b4 (nI k) fu l1_35 v40 v41 D39)))))) (by omega) 7 2000 0 (by omega) (by omega)
      refine Eq.trans e ?_
      rw [moN] at nx
      simp only [bnd_e, nI_1]
      by_cases c : moN P g 7 a < caN P g a 7
      · rw [if_pos (nI_lt c (by omega))]
        rw [if_pos c] at nx
        exact nx
      · rw [if_neg (nI_nlt (by omega) (by omega))]
        rw [if_neg c] at nx
        exact nx
  exact outer 7 2000 0 (by omega) (by omega)
theorem r_mostAlike {D : Dt} {M k : Nat} {S : Nat → Int32} (hM : M ≤ 7) (hk : k < 5) (hS : ∀ m, m < M → D.1 (11, 0, 54, 0) (5 * m + k) = S m) : F_X11_mostAlike (nI k) (nI M) D = some (nI (moM S M M), D) := by
  have ix : ∀ m, m < M → inB ((5 : Int32) * nI m + nI k) 35 = true ∧ ((5 : Int32) * nI m + nI k).toNatClampNeg = 5 * m + k := by
    intro m hm
    have e : (5 : Int32) * nI m + nI k = nI (5 * m + k) := by rw [show (5 : Int32) = nI 5 from rfl, pk_mul, nI_add]
    rw [e]
    exact ⟨inBe (by omega) (by decide), nIc (by omega)⟩
  have inner : ∀ (l3 : Int32) (a : Nat) (kk : Int32 → Int32 → Int32 → Int32 → Int32 → Dt → Option (Int32 × Dt)), a < M → ∀ (m fu b : Nat), b + m = M → m < fu → F_X11_mostAlike_b17 (nI k) (nI M) kk fu (nI k) (nI M) l3 (nI a) (nI (caM S (S a) b)) (nI b) D = kk (nI k) (nI M) l3 (nI a) (nI (caM S (S a) M)) D := by
    intro l3 a kk ha m
    induction m with
    | zero =>
      intro fu b hb hf
      obtain ⟨fu, rfl⟩ : ∃ g, fu = g + 1 := ⟨fu - 1, by omega⟩
      have : b = M := by omega
      subst this
      rw [F_X11_mostAlike_b17, if_pos (nI_le (Nat.le_refl _) (by omega))]
    | succ m ih =>
      intro fu b hb hf
      obtain ⟨fu, rfl⟩ : ∃ g, fu = g + 1 := ⟨fu - 1, by omega⟩
      have nx := ih fu (b + 1) (by omega) (by omega)
      rw [F_X11_mostAlike_b17, if_neg (nI_ge (by omega) (by omega)), grd_t (ix b (by omega)).1, grd_t (ix a ha).1, (ix b (by omega)).2, (ix a ha).2, hS a ha, hS b (by omega)]
      simp only [F_X11_mostAlike_b55, bnd_e, nI_1]
      rw [caM] at nx
      by_cases c : S b = S a
      · rw [if_pos c]
        rw [if_pos c] at nx
        exact nx
      · rw [if_neg c, Int32.add_zero]
        rw [if_neg c] at nx
        exact nx
  have outer : ∀ (m fu a : Nat), a + m = M → m < fu → F_X11_mostAlike_b5 (nI k) (nI M) fu (nI k) (nI M) (nI (moM S M a)) (nI a) D = some (nI (moM S M M), D) := by
    intro m
    induction m with
    | zero =>
      intro fu a ha hf
      obtain ⟨fu, rfl⟩ : ∃ g, fu = g + 1 := ⟨fu - 1, by omega⟩
      have : a = M := by omega
      subst this
      rw [F_X11_mostAlike_b5, if_pos (nI_le (Nat.le_refl _) (by omega))]
    | succ m ih =>
      intro fu a ha hf
      obtain ⟨fu, rfl⟩ : ∃ g, fu = g + 1 := ⟨fu - 1, by omega⟩
      have nx := ih fu (a + 1) (by omega) (by omega)
      have hb1 := caM_b (S := S) (v := S a) M
      have hb2 := moM_b (S := S) (N := M) a
      rw [F_X11_mostAlike_b5, if_neg (nI_ge (by omega) (by omega))]
      have e := inner (nI (moM S M a)) a (fun l1_22 l2_23 l3_24 l4_25 l5_26 D27 => (if l5_26 ≤ l3_24 then (F_X11_mostAlike_b76 (nI k) (nI M) (fun l1_30 l2_31 l3_32 l4_33 D34 => (F_X11_mostAlike_b5 (nI k) (nI M) fu l1_30 l2_31 l3_32 l4_33 D34)) l1_22 l2_23 l4_25 l3_24 D27) else (F_X11_mostAlike_b76 (nI k) (nI M) (fun l1_35 l2_36 l3_37 l4_38 D39 => (F_X11_mostAlike_b5 (nI k) (nI M) fu l1_35 l2_36 l3_37 l4_38 D39)) l1_22 l2_23 l4_25 l5_26 D27))) (by omega) M 2000 0 (by omega) (by omega)
      refine Eq.trans e ?_
      rw [moM] at nx
      simp only [F_X11_mostAlike_b76, bnd_e, nI_1]
      by_cases c : moM S M a < caM S (S a) M
      · rw [if_neg (nI_ge c (by omega))]
        rw [if_pos c] at nx
        exact nx
      · rw [if_pos (nI_le (by omega) (by omega))]
        rw [if_neg c] at nx
        exact nx
  exact outer M 2000 0 (by omega) (by omega)
def alk (A : Al) (x k : Nat) : Nat := moN (fitP A) (fun t => frm A (moL t) x k) (alN A + 1) (alN A + 1)
theorem alk_b {A : Al} {x k : Nat} (hA : okA A) : alk A x k ≤ 7 := by
  have := moN_b (P := fitP A) (g := fun t => frm A (moL t) x k) (N := alN A + 1) (alN A + 1)
  have := hA.2.2.1
  unfold alk
  omega
theorem alk_q {A : Al} {x k : Nat} (hA : okA A) : moN (fitQ A) (fun t => frm A (moL t) x k) 7 7 = alk A x k := by
  have := hA.2.2.1
  unfold alk
  rw [moN_cut (P := fitP A) (Q := fitQ A) (N := alN A + 1) (M := 7) (fun t ht => fitQ_lo ht) (fun t ht => fitQ_hi ht) 7, show min 7 (alN A + 1) = alN A + 1 by omega]
theorem c_findLook {A : Al} {D : Dt} {x : Nat} (hA : okA A) (h : RC D A) (h8 : ∀ t, t < 7 → D.1 (1, 0, 8, 0) t = (if fitQ A t = true then 1 else 0)) (h9 : ∀ t, t < 7 → fitQ A t = true → ∀ k, k < 5 → D.1 (1, 0, 9, t + 1) k = frm A (moL t) x k) {L : Nat} (hL : shN (woH (alW A)) = L + 1) : ∃ D', F_X1_findLook D = some D' ∧ Sm qS D D' ∧ D'.1 (1, 0, 0, 0) 10 = nI (lkI (alk A x) L) ∧ D'.1 (1, 0, 0, 0) 11 = nI (alk A x (lkI (alk A x) L)) := by
  have hn := hA.1.1
  have hN6 := hA.2.2.1
  rw [F_X1_findLook, bnd_e]
  have s0 : Sm (fun la _ => la == (1, 0, 0, 0)) D (setI D (1, 0, 0, 0) 11 8) := Sm.sI (by simp)
  have q1 : ∀ {E E' : Dt}, Sm (fun la _ => la == (1, 0, 0, 0)) E E' → Sm qS E E' := fun s => s.mono (fun la k e => by
    rw [beq_eq_false_iff_ne]
    rintro rfl
    simp [qS] at e)
  have al : ∀ E, Sm (fun la _ => la == (1, 0, 0, 0)) D E → ∀ k, k < 5 → F_X1_mostAlike (nI k) E = some (nI (alk A x k), E) := fun E s k hk => by
    rw [← alk_q hA]
    exact c_mostAlike (P := fitQ A) (g := fun t => frm A (moL t) x k) hk (fun t ht => by rw [s.i (by simp)]; exact h8 t ht) (fun t ht hp => by rw [s.i (by simp)]; exact h9 t ht hp k hk)
  have key : ∀ (m fu k : Nat) (E : Dt), k + m = L → m + 1 < fu → Sm (fun la _ => la == (1, 0, 0, 0)) D E → E.1 (1, 0, 0, 0) 10 = nI (lkI (alk A x) k) → E.1 (1, 0, 0, 0) 11 = nI (alk A x (lkI (alk A x) k)) → ∃ D', F_X1_findLook_b8 fu (nI (k + 1)) E = some D' ∧ Sm qS D D' ∧ D'.1 (1, 0, 0, 0) 10 = nI (lkI (alk A x) L) ∧ D'.1 (1, 0, 0, 0) 11 = nI (alk A x (lkI (alk A x) L)) := by
    intro m
    induction m with
    | zero =>
      intro fu k E hk hf s h10 h11
      obtain ⟨fu, rfl⟩ : ∃ g, fu = g + 1 := ⟨fu - 1, by omega⟩
      have : k = L := by omega
      subst this
      have e3 : E.1 (5, 0, 0, 0) 3 = nI (k + 1) := by rw [s.i (by simp), h.n, hL]
      rw [F_X1_findLook_b8, e3, if_pos (nI_le (Nat.le_refl _) (by omega))]
      exact ⟨E, rfl, q1 s, h10, h11⟩
    | succ m ih =>
      intro fu k E hk hf s h10 h11
      obtain ⟨fu, rfl⟩ : ∃ g, fu = g + 1 := ⟨fu - 1, by omega⟩
      have e3 : E.1 (5, 0, 0, 0) 3 = nI (L + 1) := by rw [s.i (by simp), h.n, hL]
      have hb1 := alk_b (x := x) (k := k + 1) hA
      have hb2 := alk_b (x := x) (k := lkI (alk A x) k) hA
      rw [F_X1_findLook_b8, e3, if_neg (nI_ge (by omega) (by omega)), al E s (k + 1) (by omega), cbd_s, h11]
      simp only [F_X1_findLook_b46, bnd_e, nI_1]
      by_cases c : alk A x (k + 1) < alk A x (lkI (alk A x) k)
      · have hl : lkI (alk A x) (k + 1) = k + 1 := by rw [lkI, if_pos c]
        rw [if_neg (nI_ge c (by omega))]
        exact ih fu (k + 1) _ (by omega) (by omega) (s.trans ((Sm.sI (by simp)).trans (Sm.sI (by simp)))) (by rw [gI_s, hl]) (by rw [gI, if_neg (by simp), gI_s, hl])
      · have hl : lkI (alk A x) (k + 1) = lkI (alk A x) k := by rw [lkI, if_neg c]
        rw [if_pos (nI_le (by omega) (by omega))]
        exact ih fu (k + 1) E (by omega) (by omega) s (by rw [h10, hl]) (by rw [h11, hl])
  have e3 : (setI D (1, 0, 0, 0) 11 8).1 (5, 0, 0, 0) 3 = nI (L + 1) := by rw [s0.i (by simp), h.n, hL]
  have hb := alk_b (x := x) (k := 0) hA
  have al0 := al _ s0 0 (by decide)
  rw [show F_X1_findLook_b8 2000 0 (setI D (1, 0, 0, 0) 11 8) = F_X1_findLook_b8 (1999 + 1) (nI 0) (setI D (1, 0, 0, 0) 11 8) from rfl, F_X1_findLook_b8, e3, if_neg (nI_ge (by omega) (by omega)), al0, cbd_s, gI_s, if_neg (show ¬ (8 : Int32) ≤ nI (alk A x 0) from nI_ge (b := 8) (by omega) (by decide))]
  simp only [F_X1_findLook_b46, bnd_e, nI_1]
  exact key L 1999 0 _ (by omega) (by omega) (s0.trans ((Sm.sI (by simp)).trans (Sm.sI (by simp)))) (by rw [gI_s]; rfl) (by rw [gI, if_neg (by simp), gI_s]; rfl)
theorem r_showRow {x M : Nat} {a1 a2 l2 l4 : Int32} {kk : Int32 → Int32 → Int32 → Int32 → Dt → Option (Int32 × Dt)} {D : Dt} (hx : x < 61) (hM : M < 7) : ∃ D', F_X11_look_b61 a1 a2 kk 2000 (nI x) l2 (nI M) l4 0 D = kk (nI x) l2 (nI M) l4 D' ∧ (∀ k, k < 5 → D'.1 (11, 0, 54, 0) (5 * M + k) = D.1 (11, 0, 53, 0) (5 * x + k)) ∧ Sm (fun la k => la == (11, 0, 54, 0) && decide (5 * M ≤ k ∧ k < 5 * M + 5)) D D' := by
  obtain ⟨D', ⟨p1, p2⟩, e⟩ := lpC (fun fu j E => F_X11_look_b61 a1 a2 kk fu (nI x) l2 (nI M) l4 (nI j) E) (fun j E => (∀ k, k < j → E.1 (11, 0, 54, 0) (5 * M + k) = D.1 (11, 0, 53, 0) (5 * x + k)) ∧ Sm (fun la k => la == (11, 0, 54, 0) && decide (5 * M ≤ k ∧ k < 5 * M + 5)) D E) 5 (kk (nI x) l2 (nI M) l4)
    (fun fu j E hj hh => by
      refine ⟨setI E (11, 0, 54, 0) (5 * M + j) (E.1 (11, 0, 53, 0) (5 * x + j)), ⟨fun k hk => ?_, hh.2.trans (Sm.sI (by simp [hj]))⟩, ?_⟩
      · rw [gI]
        by_cases c : k = j
        · rw [if_pos ⟨rfl, by omega⟩, c, hh.2.i (by simp)]
        · rw [if_neg (fun y => c (by omega))]
          exact hh.1 k (by omega)
      · show F_X11_look_b61 a1 a2 kk (fu + 1) (nI x) l2 (nI M) l4 (nI j) E = F_X11_look_b61 a1 a2 kk fu (nI x) l2 (nI M) l4 (nI (j + 1)) _
        rw [F_X11_look_b61, if_neg (show ¬ (5 : Int32) ≤ nI j from nI_ge (b := 5) hj (by decide)), show (5 : Int32) = nI 5 from rfl, pk_mul, nI_add, pk_mul, nI_add, grd_t (inBe (by omega) (by decide)), grd_t (inBe (by omega) (by decide)), nIc (k := 5 * M + j) (by omega), nIc (k := 5 * x + j) (by omega), bnd_e, bnd_e, nI_1])
    (fun fu E hh => by
      show F_X11_look_b61 a1 a2 kk (fu + 1) (nI x) l2 (nI M) l4 (nI 5) E = _
      rw [F_X11_look_b61, if_pos (show (5 : Int32) ≤ nI 5 by decide)])
    5 2000 0 D (by omega) (by omega) ⟨fun k hk => absurd hk (by omega), Sm.refl⟩
  exact ⟨D', e, p1, p2⟩
theorem p_look (a b : Int32) : Cal (F_X10_look a b) (F_X11_look a b) := by
  refine cal_of (fun A hA => ?_)
  have hN6 := hA.2.2.1
  have hn := hA.1.1
  by_cases ht : (woH (alW A)).1 = true
  · by_cases c2 : (0 : Int32) ≤ a ∧ a ≤ 60
    · obtain ⟨x, hx, rfl⟩ := nI_of2 (x := a) (M := 60) (n := 60) rfl (fun g => (fa_of_lt g).2.1 c2.1) c2.2
      by_cases c3 : (0 : Int32) ≤ b ∧ b ≤ 1
      · have hcb := cnF_b (P := fitP A) (alN A + 1)
        refine cal_ask hA (if cnF (fitP A) (alN A + 1) = 0 ∨ shN (woH (alW A)) = 0 then -2 else if b = 0 then nI (lkI (alk A x) (shN (woH (alW A)) - 1)) else nI (alk A x (lkI (alk A x) (shN (woH (alW A)) - 1)))) (fun D h => ?_) (fun D h => ?_)
        · obtain ⟨D1, e1, s1, v11, v10, v8, v9⟩ := c_findRules (K := x + 1) hA ht h (by omega)
          rw [moL_s] at e1
          have h5 : D.1 (10, 0, 0, 0) 5 = nI (alN A) := h.2.2.2.2.1
          have R1 := h.scr s1
          rw [F_X10_look, there_c h, i1t ht, c_within, cbd_s, i1t c2, c_within, cbd_s, i1t c3, h5, e1, vbd_s, v11, R1.n]
          by_cases d1 : cnF (fitP A) (alN A + 1) = 0
          · rw [if_pos (by rw [d1]; decide), if_pos (Or.inl d1)]
            exact ⟨D1, rfl, s1⟩
          · rw [if_neg (show ¬ nI (cnF (fitP A) (alN A + 1)) < (1 : Int32) from nI_nlt (b := 1) (by omega) (by omega))]
            by_cases d2 : shN (woH (alW A)) = 0
            · rw [if_neg (by rw [d2]; decide), if_pos (Or.inr d2)]
              exact ⟨D1, rfl, s1⟩
            · obtain ⟨L, hL⟩ : ∃ L, shN (woH (alW A)) = L + 1 := ⟨shN (woH (alW A)) - 1, by omega⟩
              obtain ⟨D2, e2, s2, w10, w11⟩ := c_findLook (x := x) hA R1 v8 (fun t ht hp k hk => v9 t ht hp x rfl k hk) hL
              rw [if_pos (show (1 : Int32) ≤ nI (shN (woH (alW A))) from nI_le (a := 1) (by omega) (by omega)), if_neg (by rintro (y | y); exact d1 y; exact d2 y), e2, vbd_s, w10, w11, hL]
              simp only [if_so, Nat.add_sub_cancel]
              exact ⟨D2, rfl, s1.trans s2⟩
        · obtain ⟨D1, e1, g1⟩ := qg_start h
          rw [F_X11_look, r_isTable, cbd_s]
          simp only [there_m hA h]
          rw [i1t ht, r_in_0_60, cbd_s, i1t c2, r_in_0_1, cbd_s, i1t c3, e1, vbd_s]
          have fin : ∀ E, QG A D E (woC (alW A)) 0 0 (-1) (-1) (woD (alW A)) (woS (alW A)) → (∀ t, t < alN A + 1 → fitP A t = true → ∀ k, k < 5 → E.1 (11, 0, 54, 0) (5 * cnF (fitP A) t + k) = frm A (moL t) x k) → ∃ D' o, (fun l2_42 l3_43 D44 => (if l3_43 = 0 then (some ((-2 : Int32), D44)) else (if (D44.1 (11, 0, 2, 0) 2) = 0 then (some ((-2 : Int32), D44)) else (F_X11_look_b126 (nI x) b (fun l2_66 l3_67 l4_68 D69 => (if l2_66 = 0 then (some (l4_68, D69)) else (cbd (F_X11_mostAlike l4_68 l3_67 D69) (fun r72 D73 => (some (r72, D73)))))) 2000 l2_42 l3_43 (0 : Int32) (1 : Int32) D44)))) b (nI (cnF (fitP A) (alN A + 1))) E = some ((if cnF (fitP A) (alN A + 1) = 0 ∨ shN (woH (alW A)) = 0 then -2 else if b = 0 then nI (lkI (alk A x) (shN (woH (alW A)) - 1)) else nI (alk A x (lkI (alk A x) (shN (woH (alW A)) - 1)))), D') ∧ QG A D D' (woC (alW A)) 0 0 (-1) o (woD (alW A)) (woS (alW A)) := by
            intro E g hS
            simp only
            rw [qg_n g]
            by_cases d1 : cnF (fitP A) (alN A + 1) = 0
            · rw [if_pos (by rw [d1]; rfl), if_pos (Or.inl d1)]
              exact ⟨E, _, rfl, g⟩
            · rw [if_neg (nI_ne0 (by omega) (by omega))]
              by_cases d2 : shN (woH (alW A)) = 0
              · rw [if_pos (by rw [d2]; rfl), if_pos (Or.inr d2)]
                exact ⟨E, _, rfl, g⟩
              · obtain ⟨L, hL⟩ : ∃ L, shN (woH (alW A)) = L + 1 := ⟨shN (woH (alW A)) - 1, by omega⟩
                rw [if_neg (nI_ne0 (by omega) (by omega)), if_neg (by rintro (y | y); exact d1 y; exact d2 y), hL, Nat.add_sub_cancel]
                have al : ∀ k, k < 5 → F_X11_mostAlike (nI k) (nI (cnF (fitP A) (alN A + 1))) E = some (nI (alk A x k), E) := fun k hk => by
                  have e := r_mostAlike (D := E) (M := cnF (fitP A) (alN A + 1)) (k := k) (S := fun m => E.1 (11, 0, 54, 0) (5 * m + k)) (by omega) hk (fun m _ => rfl)
                  rw [e, mo_eq (P := fitP A) (g := fun t => frm A (moL t) x k) (N := alN A + 1) (fun t ht hp => hS t ht hp k hk) (alN A + 1) (Nat.le_refl _)]
                  rfl
                have key : ∀ (m fu k : Nat), k + m = L → m < fu → F_X11_look_b126 (nI x) b (fun l2_66 l3_67 l4_68 D69 => (if l2_66 = 0 then (some (l4_68, D69)) else (cbd (F_X11_mostAlike l4_68 l3_67 D69) (fun r72 D73 => (some (r72, D73)))))) fu b (nI (cnF (fitP A) (alN A + 1))) (nI (lkI (alk A x) k)) (nI (k + 1)) E = some ((if b = 0 then nI (lkI (alk A x) L) else nI (alk A x (lkI (alk A x) L))), E) := by
                  intro m
                  induction m with
                  | zero =>
                    intro fu k hk hf
                    obtain ⟨fu, rfl⟩ : ∃ g, fu = g + 1 := ⟨fu - 1, by omega⟩
                    have : k = L := by omega
                    subst this
                    have hb := lkI_b (al := alk A x) k
                    rw [F_X11_look_b126, qg_n g, hL, if_pos (nI_le (Nat.le_refl _) (by omega)), al _ (by omega), cbd_s]
                    simp only [if_so]
                  | succ m ih =>
                    intro fu k hk hf
                    obtain ⟨fu, rfl⟩ : ∃ g, fu = g + 1 := ⟨fu - 1, by omega⟩
                    have hb := lkI_b (al := alk A x) k
                    have hb1 := alk_b (x := x) (k := k + 1) hA
                    have hb2 := alk_b (x := x) (k := lkI (alk A x) k) hA
                    rw [F_X11_look_b126, qg_n g, hL, if_neg (nI_ge (by omega) (by omega)), al _ (by omega), cbd_s, al _ (by omega), cbd_s]
                    simp only [F_X11_look_b161, bnd_e, nI_1]
                    have nx := ih fu (k + 1) (by omega) (by omega)
                    rw [lkI] at nx
                    by_cases c : alk A x (k + 1) < alk A x (lkI (alk A x) k)
                    · rw [if_neg (nI_ge c (by omega))]
                      rw [if_pos c] at nx
                      exact nx
                    · rw [if_pos (nI_le (by omega) (by omega))]
                      rw [if_neg c] at nx
                      exact nx
                exact ⟨E, _, key L 2000 0 (by omega) (by omega), g⟩
          have key : ∀ (m fu t : Nat) (E : Dt), t + m = alN A + 1 → m < fu → QG A D E (woC (alW A)) 0 0 (-1) (-1) (woD (alW A)) (woS (alW A)) → (∀ t', t' < t → fitP A t' = true → ∀ k, k < 5 → E.1 (11, 0, 54, 0) (5 * cnF (fitP A) t' + k) = frm A (moL t') x k) → ∃ D' o, F_X11_look_b40 (nI x) b (fun l2_42 l3_43 D44 => (if l3_43 = 0 then (some ((-2 : Int32), D44)) else (if (D44.1 (11, 0, 2, 0) 2) = 0 then (some ((-2 : Int32), D44)) else (F_X11_look_b126 (nI x) b (fun l2_66 l3_67 l4_68 D69 => (if l2_66 = 0 then (some (l4_68, D69)) else (cbd (F_X11_mostAlike l4_68 l3_67 D69) (fun r72 D73 => (some (r72, D73)))))) 2000 l2_42 l3_43 (0 : Int32) (1 : Int32) D44)))) fu (nI x) b (nI (cnF (fitP A) t)) (moL t) E = some ((if cnF (fitP A) (alN A + 1) = 0 ∨ shN (woH (alW A)) = 0 then -2 else if b = 0 then nI (lkI (alk A x) (shN (woH (alW A)) - 1)) else nI (alk A x (lkI (alk A x) (shN (woH (alW A)) - 1)))), D') ∧ QG A D D' (woC (alW A)) 0 0 (-1) o (woD (alW A)) (woS (alW A)) := by
            intro m
            induction m with
            | zero =>
              intro fu t E hj hf g hS
              obtain ⟨fu, rfl⟩ : ∃ g, fu = g + 1 := ⟨fu - 1, by omega⟩
              have : t = alN A + 1 := by omega
              subst this
              have x23 : E.1 (11, 0, 0, 0) 23 = nI (alN A) := by rw [g.2.1.i (by simp [qmS])]; exact g.1.2.2.2.1
              rw [F_X11_look_b40, x23, moL_s, if_pos (nI_le (Nat.le_refl _) (by omega))]
              exact fin E g hS
            | succ m ih =>
              intro fu t E hj hf g hS
              obtain ⟨fu, rfl⟩ : ∃ g, fu = g + 1 := ⟨fu - 1, by omega⟩
              have x23 : E.1 (11, 0, 0, 0) 23 = nI (alN A) := by rw [g.2.1.i (by simp [qmS])]; exact g.1.2.2.2.1
              have n1 : ¬ nI (alN A) ≤ moL t := by rw [fa_le, nI_toInt (by omega), moL_toInt (by omega)]; omega
              obtain ⟨E1, e1, g1, l1, k1⟩ := r_could hA (isF_mo (t := t) (by omega)) g
              have hct := cnF_b (P := fitP A) t
              rw [F_X11_look_b40, x23, if_neg n1, e1, cbd_s]
              have hS1 : ∀ t', t' < t → fitP A t' = true → ∀ k, k < 5 → E1.1 (11, 0, 54, 0) (5 * cnF (fitP A) t' + k) = frm A (moL t') x k := fun t' ht' hp k hk => by rw [k1]; exact hS t' ht' hp k hk
              by_cases c : notB A (moL t) = true
              · have hc : fitP A t = true := c
                have hcn : cnF (fitP A) (t + 1) = cnF (fitP A) t + 1 := by rw [cnF, if_pos hc]
                rw [if_pos c, if_neg (by decide)]
                obtain ⟨E2, e2, v2, m2⟩ := r_showRow (x := x) (M := cnF (fitP A) t) (a1 := nI x) (a2 := b) (l2 := b) (l4 := moL t) (kk := (fun l1_31 l2_32 l3_33 l4_34 D35 => (bnd (l3_33 + (1 : Int32)) (fun v36 => (F_X11_look_b98 (nI x) b (fun l1_37 l2_38 l3_39 l4_40 D41 => (F_X11_look_b40 (nI x) b (fun l2_42 l3_43 D44 => (if l3_43 = 0 then (some ((-2 : Int32), D44)) else (if (D44.1 (11, 0, 2, 0) 2) = 0 then (some ((-2 : Int32), D44)) else (F_X11_look_b126 (nI x) b (fun l2_66 l3_67 l4_68 D69 => (if l2_66 = 0 then (some (l4_68, D69)) else (cbd (F_X11_mostAlike l4_68 l3_67 D69) (fun r72 D73 => (some (r72, D73)))))) 2000 l2_42 l3_43 (0 : Int32) (1 : Int32) D44)))) fu l1_37 l2_38 l3_39 l4_40 D41)) l1_31 l2_32 v36 l4_34 D35))))) (D := E1) (by omega) (by omega)
                rw [e2, bnd_e, nI_1, F_X11_look_b98, bnd_e, moL_1]
                have m2' : Sm (fun la _ => la.1 == 11 && decide (50 ≤ la.2.2.1 ∧ la.2.2.1 ≤ 54)) E1 E2 := m2.mono (fun la k e => by
                  rw [Bool.and_eq_false_iff, beq_eq_false_iff_ne]
                  left
                  rintro rfl
                  simp at e)
                have nx := ih fu (t + 1) E2 (by omega) (by omega) (qg_w g1 m2') (fun t' ht' hp k hk => by
                  by_cases cc : t' = t
                  · rw [cc, v2 k hk, l1 x k (by omega) hk]
                  · have hlt : cnF (fitP A) t' < cnF (fitP A) t := by
                      have : ∀ d, cnF (fitP A) (t' + 1) ≤ cnF (fitP A) (t' + 1 + d) := by
                        intro d
                        induction d with
                        | zero => exact Nat.le_refl _
                        | succ d ihd => exact Nat.le_trans ihd (Nat.le_add_right _ _)
                      have h1 := this (t - (t' + 1))
                      rw [show t' + 1 + (t - (t' + 1)) = t by omega, cnF, if_pos hp] at h1
                      omega
                    rw [m2.i (by simp; omega)]
                    exact hS1 t' (by omega) hp k hk)
                rw [hcn] at nx
                exact nx
              · have hc : ¬ fitP A t = true := c
                rw [if_neg c, if_pos rfl, F_X11_look_b98, bnd_e, moL_1]
                have nx := ih fu (t + 1) E1 (by omega) (by omega) g1 (fun t' ht' hp k hk => by
                  by_cases cc : t' = t
                  · rw [cc] at hp
                    exact absurd hp hc
                  · exact hS1 t' (by omega) hp k hk)
                rw [show cnF (fitP A) (t + 1) = cnF (fitP A) t by rw [cnF, if_neg hc]; rfl] at nx
                exact nx
          exact key (alN A + 1) 2000 0 D1 (by omega) (by omega) g1 (fun t' ht' => absurd ht' (by omega))
      · refine cal_no hA (-1) (fun D h => ?_) (fun D h => ?_)
        · rw [F_X10_look, there_c h, i1t ht, c_within, cbd_s, i1t c2, c_within, cbd_s, i1f c3]
        · rw [F_X11_look, r_isTable, cbd_s]
          simp only [there_m hA h]
          rw [i1t ht, r_in_0_60, cbd_s, i1t c2, r_in_0_1, cbd_s, i1f c3]
    · refine cal_no hA (-1) (fun D h => ?_) (fun D h => ?_)
      · rw [F_X10_look, there_c h, i1t ht, c_within, cbd_s, i1f c2]
      · rw [F_X11_look, r_isTable, cbd_s]
        simp only [there_m hA h]
        rw [i1t ht, r_in_0_60, cbd_s, i1f c2]
  · refine cal_no hA (-1) (fun D h => ?_) (fun D h => ?_)
    · rw [F_X10_look, there_c h, i1f ht]
    · rw [F_X11_look, r_isTable, cbd_s]
      simp only [there_m hA h]
      rw [i1f ht]
