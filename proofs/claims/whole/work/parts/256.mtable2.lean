theorem r_tWord {D : Dt} {T : Tp} {q : Nat} {f a1 l1 l2 : Int32} {kk : Int32 → Int32 → Int32 → Dt → Option Dt} (hT : okT T) (hq : q < 100000) (h : RP D T q f) : F_X11_tableClause_b11 a1 kk 2000 l1 l2 0 D = kk l1 l2 (if kd T q = 32 then 0 else if kd T q = 20 then 1 else if kd T q = 23 then 2 else 3) D := by
  have w2 : F_X11_stood 2 D = some ((if kd T q = 32 then 1 else 0), D) := r_word (k := 12) hT hq (by decide) h
  have w3 : F_X11_stood 3 D = some ((if kd T q = 20 then 1 else 0), D) := r_word (k := 0) hT hq (by decide) h
  have w4 : F_X11_stood 4 D = some ((if kd T q = 23 then 1 else 0), D) := r_word (k := 3) hT hq (by decide) h
  have t0 : F_X11_tableWord 0 D = some (2, D) := rfl
  have t1 : F_X11_tableWord (0 + 1) D = some (3, D) := rfl
  have t2 : F_X11_tableWord (0 + 1 + 1) D = some (4, D) := rfl
  rw [show (2000 : Nat) = 1999 + 1 from rfl, F_X11_tableClause_b11, if_neg (by decide), t0, cbd_s, grd_t (by decide), w2, cbd_s]
  by_cases c1 : kd T q = 32
  · rw [i1t c1, if_pos c1]
  · rw [i1f c1, if_neg c1, bnd_e, show (1999 : Nat) = 1998 + 1 from rfl, F_X11_tableClause_b11, if_neg (by decide), t1, cbd_s, grd_t (by decide), w3, cbd_s]
    by_cases c2 : kd T q = 20
    · rw [i1t c2, if_pos c2]; rfl
    · rw [i1f c2, if_neg c2, bnd_e, show (1998 : Nat) = 1997 + 1 from rfl, F_X11_tableClause_b11, if_neg (by decide), t2, cbd_s, grd_t (by decide), w4, cbd_s]
      by_cases c3 : kd T q = 23
      · rw [i1t c3, if_pos c3]; rfl
      · rw [i1f c3, if_neg c3, bnd_e, show (1997 : Nat) = 1996 + 1 from rfl, F_X11_tableClause_b11, if_pos (by decide)]; rfl
theorem r_isFull {D : Dt} {k cl n : Nat} (hk : k < 3) (hcl : cl ≤ 40) (hn : n ≤ 5) (h : D.1 (11, 0, 15, 0) 2 = nI n) : F_X11_isFull (nI k) (nI cl) D = some ((if cl = 40 ∨ ¬ (k = 0 ↔ cl = 0) ∨ (k = 1 ∧ n = 5) then 1 else 0), D) := by
  have b24 : ∀ s0 s1 : Int32, (s0 = s1 ↔ (k = 0 ↔ cl = 0)) → ¬ cl = 40 → F_X11_isFull_b24 (nI k) (nI cl) (nI k) s0 s1 D = some ((if cl = 40 ∨ ¬ (k = 0 ↔ cl = 0) ∨ (k = 1 ∧ n = 5) then 1 else 0), D) := by
    intro s0 s1 hs hc
    rw [F_X11_isFull_b24, h]
    by_cases c : k = 0 ↔ cl = 0
    · rw [if_pos (hs.mpr c)]
      by_cases c1 : k = 1
      · rw [if_pos (by rw [c1]; rfl)]
        by_cases c2 : n = 5
        · rw [if_pos (by rw [c2]; rfl), if_pos (Or.inr (Or.inr ⟨c1, c2⟩))]
        · rw [if_neg (show ¬ nI n = (5 : Int32) from fun e => c2 ((nI_eq (b := 5) (by omega) (by decide)).mp e)), if_neg (by rintro (x | x | x); exact hc x; exact x c; exact c2 x.2)]
      · rw [if_neg (show ¬ nI k = (1 : Int32) from fun e => c1 ((nI_eq (b := 1) (by omega) (by decide)).mp e)), if_neg (by rintro (x | x | x); exact hc x; exact x c; exact c1 x.1)]
    · rw [if_neg (fun e => c (hs.mp e)), if_pos (Or.inr (Or.inl c))]
  rw [F_X11_isFull]
  by_cases c40 : cl = 40
  · rw [if_pos (by rw [c40]; rfl), if_pos (Or.inl c40)]
  · rw [if_neg (show ¬ nI cl = (40 : Int32) from fun e => c40 ((nI_eq (b := 40) (by omega) (by decide)).mp e))]
    simp only [F_X11_isFull_b15]
    by_cases c0 : k = 0
    · rw [if_pos (by rw [c0]; rfl)]
      by_cases cc : cl = 0
      · rw [if_pos (by rw [cc]; rfl)]
        exact b24 1 1 ⟨fun _ => ⟨fun _ => cc, fun _ => c0⟩, fun _ => rfl⟩ c40
      · rw [if_neg (nI_ne0 (by omega) (by omega))]
        exact b24 1 0 ⟨fun e => absurd e (by decide), fun e => absurd (e.mp c0) cc⟩ c40
    · rw [if_neg (nI_ne0 (by omega) (by omega))]
      by_cases cc : cl = 0
      · rw [if_pos (by rw [cc]; rfl)]
        exact b24 0 1 ⟨fun e => absurd e (by decide), fun e => absurd (e.mpr cc) c0⟩ c40
      · rw [if_neg (nI_ne0 (by omega) (by omega))]
        exact b24 0 0 ⟨fun _ => ⟨fun x => absurd x c0, fun x => absurd x cc⟩, fun _ => rfl⟩ c40
theorem nx_le {T : Tp} {q : Nat} (h : q ≤ tpL T) : nx T q ≤ tpL T := by
  by_cases c : q < tpL T
  · exact (nx_gt c).2
  · unfold nx
    rw [if_pos (by omega)]
    exact h
theorem r_tClause {D : Dt} {T : Tp} {p cl : Nat} {h : Shp} (hT : okT T) (hp : p ≤ tpL T) (hcl : cl ≤ 40) (hr : RP D T p 0) (hs : ShM D h) : tcR T (pTC T h cl (sbk T p)) D (F_X11_tableClause (nI cl) D) := by
  have hL := hT.1
  obtain ⟨D1, e1, r1, m1⟩ := r_blk hT (by omega) hr
  have hq := sbk_le hp
  have hs1 := hs.p (p20_21 m1)
  generalize sbk T p = q at r1 hq ⊢
  have hn := hs.2.2.1.1
  have fl : ∀ c : Nat, ∃ D' p', F_X11_fails (nI c) (nI q) D1 = some D' ∧ RP D' T p' (nI (1 + 8 * q + c)) ∧ p' ≤ tpL T ∧ Sm rmT D D' := fun c => by
    obtain ⟨D', e, r, m⟩ := r_fails (x := q) (c := c) r1
    exact ⟨D', q, e, r, hq, (p21_rm (p20_21 m1)).trans (p21_rm (m21 m))⟩
  have hv : ∀ x : Option Dt, vbd x (fun D33 => some D33) = x := fun x => by cases x <;> rfl
  have lift : ∀ (R : Nat ⊕ (Shp × Nat)) (E : Dt) (x : Option Dt), Sm rmT D E → tcR T R E x → tcR T R D x := by
    intro R E x m ht
    unfold tcR at ht ⊢
    cases R with
    | inl f =>
      obtain ⟨D', p', a, b, c, d⟩ := ht
      exact ⟨D', p', a, b, c, m.trans d⟩
    | inr w =>
      obtain ⟨D', p', a, b, c, d, e, f⟩ := ht
      exact ⟨D', p', a, b, c, d, e, m.trans f⟩
  have main : F_X11_tableClause (nI cl) D = (fun l1_14 l2_15 l3_16 D17 => (if l3_16 = (3 : Int32) then (vbd (F_X11_fails (0 : Int32) l2_15 D17) (fun D33 => (some D33))) else (cbd (F_X11_isFull l3_16 l1_14 D17) (fun r20 D21 => (if r20 = 0 then (cbd (F_X11_tableWord l3_16 D21) (fun r24 D25 => (grd (r24 < 20) (bnd (setI D25 (11, 0, 0, 0) 20 ((D21.1 (11, 0, 0, 0) 20) + (sLen r24))) (fun D27 => (vbd (F_X11_tablePart l3_16 D27) (fun D29 => (some D29)))))))) else (vbd (F_X11_fails (4 : Int32) l2_15 D21) (fun D31 => (some D31)))))))) (nI cl) (nI q) (if kd T q = 32 then 0 else if kd T q = 20 then 1 else if kd T q = 23 then 2 else 3) D1 := by
    rw [F_X11_tableClause, e1, vbd_s, bnd_e, r1.2.1, r_tWord hT (by omega) r1]
  have part : ∀ (k w : Nat), k < 3 → w < 18 → kd T q = 20 + w → F_X11_tableWord (nI k) D1 = some (sx w, D1) → (kd T q = 32 ↔ k = 0) → (kd T q = 20 ↔ k = 1) → (∀ E, RP E T (nx T q) 0 → ShM E h → tcR T (if kd T q = 32 then (match pNum T (nq T q) 1 10 with
    | .inl f => (.inl f : Nat ⊕ (Shp × Nat))
    | .inr (q1, r) => match pNum T q1 0 10 with
      | .inl f => .inl f
      | .inr (q2, s) => .inr (hRates h r s, q2)) else if kd T q = 20 then (match pNum T (nq T q) 0 100 with
    | .inl f => .inl f
    | .inr (q1, a) => match pNum T q1 0 10 with
      | .inl f => .inl f
      | .inr (q2, b) => match pNum T q2 0 100 with
        | .inl f => .inl f
        | .inr (q3, c) => .inr (hLand h a b c, q3)) else (match pNum T (nq T q) 0 (shN h) with
    | .inl f => .inl f
    | .inr (q1, a) => match pNum T q1 0 61 with
      | .inl f => .inl f
      | .inr (q2, b) => .inr (hSun h a b, q2))) E (F_X11_tablePart (nI k) E) ∨ (kd T q = 20 ∧ 5 ≤ shN h)) → F_X11_tableClause (nI cl) D = (cbd (F_X11_isFull (nI k) (nI cl) D1) (fun r20 D21 => (if r20 = 0 then (cbd (F_X11_tableWord (nI k) D21) (fun r24 D25 => (grd (r24 < 20) (bnd (setI D25 (11, 0, 0, 0) 20 ((D21.1 (11, 0, 0, 0) 20) + (sLen r24))) (fun D27 => (vbd (F_X11_tablePart (nI k) D27) (fun D29 => (some D29)))))))) else (vbd (F_X11_fails (4 : Int32) (nI q) D21) (fun D31 => (some D31)))))) → tcR T (pTC T h cl q) D (F_X11_tableClause (nI cl) D) := by
    intro k w hk hw hkd ht hk0 hk1 hE hF
    have hx : tcR T (pTC T h cl q) D (F_X11_tableClause (nI cl) D) := by
      rw [hF, r_isFull hk hcl hn hs1.2.2.1.2, cbd_s]
      unfold pTC
      rw [if_neg (by
        intro x
        apply x
        have hcase : k = 0 ∨ k = 1 ∨ k = 2 := by omega
        rcases hcase with rfl | rfl | rfl
        · exact Or.inl (hk0.mpr rfl)
        · exact Or.inr (Or.inl (hk1.mpr rfl))
        · have : F_X11_tableWord (nI 2) D1 = some (4, D1) := rfl
          rw [this] at ht
          simp only [Option.some.injEq, Prod.mk.injEq, and_true] at ht
          have : w = 3 := by
            have : ∀ w, w < 18 → 4 = sx w → w = 3 := by decide
            exact this w hw ht
          right
          right
          omega)]
      have hcond : (40 ≤ cl ∨ ¬ (kd T q = 32 ↔ cl = 0) ∨ (kd T q = 20 ∧ 5 ≤ shN h)) ↔ (cl = 40 ∨ ¬ (k = 0 ↔ cl = 0) ∨ (k = 1 ∧ shN h = 5)) := by
        rw [hk0, hk1]
        constructor
        · rintro (x | x | x)
          · exact Or.inl (by omega)
          · exact Or.inr (Or.inl x)
          · exact Or.inr (Or.inr ⟨x.1, by omega⟩)
        · rintro (x | x | x)
          · exact Or.inl (by omega)
          · exact Or.inr (Or.inl x)
          · exact Or.inr (Or.inr ⟨x.1, by omega⟩)
      by_cases c : cl = 40 ∨ ¬ (k = 0 ↔ cl = 0) ∨ (k = 1 ∧ shN h = 5)
      · rw [if_pos (hcond.mpr c), i1t c]
        obtain ⟨D', p', e, r, l, m⟩ := fl 4
        rw [show F_X11_fails 4 (nI q) D1 = _ from e, vbd_s]
        exact ⟨D', p', rfl, r, l, m⟩
      · rw [if_neg (fun x => c (hcond.mp x)), i1f c, ht, cbd_s, grd_t (sx_b w hw).1, r1.2.1, show sLen (sx w) = nI (lnS (sx w)) from rfl, nI_add, ← kd_nx hw hkd, bnd_e, hv]
        obtain ⟨r2, m2⟩ := r1.s20 (p' := nx T q)
        rcases hE _ r2 (hs1.p (p20_21 m2)) with hE' | hE'
        · exact lift _ _ _ ((p21_rm (p20_21 m1)).trans (p21_rm (p20_21 m2))) hE'
        · exact absurd (hcond.mp (Or.inr (Or.inr hE'))) c
    exact hx
  have sbn : sbk T (nx T q) = nq T q := rfl
  by_cases c1 : kd T q = 32
  · refine part 0 12 (by decide) (by decide) c1 rfl ⟨fun _ => rfl, fun _ => c1⟩ ⟨fun x => by omega, fun x => absurd x (by decide)⟩ (fun E hE hE2 => Or.inl ?_) ?_
    · rw [if_pos c1, ← sbn]
      exact r_tRates hT (nx_le hq) hE hE2
    · rw [main, if_pos c1]
      simp only
      rw [if_neg (by decide)]
      rfl
  · by_cases c2 : kd T q = 20
    · refine part 1 0 (by decide) (by decide) c2 rfl ⟨fun x => absurd x c1, fun x => absurd x (by decide)⟩ ⟨fun _ => rfl, fun _ => c2⟩ (fun E hE hE2 => ?_) ?_
      · rw [if_neg c1, if_pos c2, ← sbn]
        by_cases c5 : shN h < 5
        · exact Or.inl (r_tLand hT (nx_le hq) c5 hE hE2)
        · exact Or.inr ⟨c2, by omega⟩
      · rw [main, if_neg c1, if_pos c2]
        simp only
        rw [if_neg (by decide)]
        rfl
    · by_cases c3 : kd T q = 23
      · refine part 2 3 (by decide) (by decide) c3 rfl ⟨fun x => absurd x c1, fun x => absurd x (by decide)⟩ ⟨fun x => absurd x c2, fun x => absurd x (by decide)⟩ (fun E hE hE2 => Or.inl ?_) ?_
        · rw [if_neg c1, if_neg c2, ← sbn]
          exact r_tSun hT (nx_le hq) hE hE2
        · rw [main, if_neg c1, if_neg c2, if_pos c3]
          simp only
          rw [if_neg (by decide)]
          rfl
      · have hx : tcR T (pTC T h cl q) D (F_X11_tableClause (nI cl) D) := by
          rw [main, if_neg c1, if_neg c2, if_neg c3]
          simp only
          rw [if_pos trivial, hv]
          unfold pTC
          rw [if_pos (by rintro (x | x | x); exact c1 x; exact c2 x; exact c3 x)]
          obtain ⟨D', p', e, r, l, m⟩ := fl 0
          exact ⟨D', p', e, r, l, m⟩
        exact hx
theorem r_goesOn {D : Dt} {T : Tp} {p : Nat} {f : Int32} (hT : okT T) (hp : p < 100000) (hr : RP D T p f) : ∃ D', F_X11_goesOn D = some ((if f = 0 ∧ kd T (sbk T p) = 4 then 1 else 0), D') ∧ RP D' T (sbk T p + 1) (if f = 0 ∧ kd T (sbk T p) ≠ 0 ∧ kd T (sbk T p) ≠ 4 then nI (1 + 8 * sbk T p) else f) ∧ Sm p21 D D' := by
  have hL := hT.1
  obtain ⟨D1, e1, r1, m1⟩ := r_blk hT hp hr
  have hq : sbk T p < 200000 := by
    by_cases c : p ≤ tpL T
    · have := sbk_le c
      omega
    · have : sbk T p = p := spE_o (by omega)
      omega
  rw [F_X11_goesOn, e1, vbd_s]
  generalize sbk T p = q at r1 hq ⊢
  have b63 : ∀ (E : Dt) (g s0 : Int32), (s0 = 0 ∨ s0 = 1) → RP E T q g → Sm p21 D E → ∃ D', F_X11_goesOn_b63 s0 E = some (s0, D') ∧ RP D' T (q + 1) g ∧ Sm p21 D D' := by
    intro E g s0 hs hE hm
    obtain ⟨r2, m2⟩ := hE.s20 (p' := q + 1)
    rw [F_X11_goesOn_b63, hE.2.1, nI_1, bnd_e, grd_t hs]
    exact ⟨_, rfl, r2, hm.trans (p20_21 m2)⟩
  have m1' := p20_21 m1
  rw [r1.2.2]
  by_cases c0 : f = 0
  · subst c0
    rw [if_pos rfl, r1.1.1, r1.2.1]
    by_cases c1 : tpL T ≤ q
    · have hk := kd_0.mpr c1
      rw [if_pos (nI_le c1 (by omega)), F_X11_goesOn_b40, r1.2.2, if_pos rfl, r1.1.1, r1.2.1, if_pos (nI_le c1 (by omega)), F_X11_goesOn_b62]
      obtain ⟨D', e, r, m⟩ := b63 D1 0 0 (Or.inl rfl) r1 m1'
      rw [e, if_neg (by omega), if_neg (by omega)]
      exact ⟨D', rfl, r, m⟩
    · have hk : kd T q ≠ 0 := fun x => c1 (kd_0.mp x)
      have h59 : ((if q < tpL T then nI (tpB T q) else -1) = (59 : Int32)) = (kd T q = 4) := sgn_c (c := 59) hT rfl (by decide) (by decide) (by decide) (Or.inl rfl)
      rw [if_neg (nI_ge (by omega) (by omega)), r_sgn hT (by omega) r1, cbd_s]
      simp only [h59]
      by_cases c2 : kd T q = 4
      · rw [if_pos c2, F_X11_goesOn_b40, r1.2.2, if_pos rfl, r1.1.1, r1.2.1, if_neg (nI_ge (by omega) (by omega))]
        obtain ⟨D', e, r, m⟩ := b63 D1 0 1 (Or.inr rfl) r1 m1'
        rw [e, if_pos ⟨trivial, c2⟩, if_neg (by omega)]
        exact ⟨D', rfl, r, m⟩
      · obtain ⟨D2, e2, r2, m2⟩ := r_fails (x := q) (c := 0) r1
        have hf2 : ft 0 (nI (1 + 8 * q + 0)) = nI (1 + 8 * q) := rfl
        rw [hf2] at r2
        rw [if_neg c2, r1.2.1, show F_X11_fails 0 (nI q) D1 = _ from e2, vbd_s, F_X11_goesOn_b40, r2.2.2, if_neg (nI_ne0 (by omega) (by omega)), F_X11_goesOn_b62]
        obtain ⟨D', e, r, m⟩ := b63 D2 _ 0 (Or.inl rfl) r2 (m1'.trans (m21 m2))
        rw [e, if_neg (fun x => c2 x.2), if_pos ⟨trivial, hk, c2⟩]
        exact ⟨D', rfl, r, m⟩
  · rw [if_neg c0, F_X11_goesOn_b40, r1.2.2, if_neg c0, F_X11_goesOn_b62]
    obtain ⟨D', e, r, m⟩ := b63 D1 f 0 (Or.inl rfl) r1 m1'
    rw [e, if_neg (fun x => c0 x.1), if_neg (fun x => c0 x.1)]
    exact ⟨D', rfl, r, m⟩
theorem r_tLoop {T : Tp} {kk : Dt → Option Dt} (hT : okT T) : ∀ m fu cl D h p, cl + m = 41 → m + 1 < fu → p ≤ tpL T → RP D T p 0 → ShM D h → match pTb T m cl h (sbk T p) with
    | .inl f => m ≠ 0 → ∃ D' p', F_X11_readsAll_b86 kk fu (nI cl) 1 D = kk D' ∧ RP D' T p' (nI f) ∧ Sm rmT D D'
    | .inr h1 => ∃ D' p', F_X11_readsAll_b86 kk fu (nI cl) 1 D = kk D' ∧ RP D' T p' 0 ∧ ShM D' h1 ∧ Sm rmT D D' := by
  have hL := hT.1
  have endL : ∀ fu (cl : Int32) D, 0 < fu → F_X11_readsAll_b86 kk fu cl 0 D = kk D := fun fu cl D hf => by
    obtain ⟨fu, rfl⟩ : ∃ g, fu = g + 1 := ⟨fu - 1, by omega⟩
    rw [F_X11_readsAll_b86, if_pos rfl]
  intro m
  induction m with
  | zero =>
    intro fu cl D h p hcl hf hp hr hs
    rw [pTb]
    exact fun x => absurd rfl x
  | succ m ih =>
    intro fu cl D h p hcl hf hp hr hs
    obtain ⟨fu, rfl⟩ : ∃ g, fu = g + 1 := ⟨fu - 1, by omega⟩
    have hcx := r_tClause (cl := cl) hT hp (by omega) hr hs
    have hb := pTC_b (h := h) (cl := cl) (sbk_le hp)
    unfold tcR at hcx
    rw [pTb, F_X11_readsAll_b86, if_neg (show ¬ (1 : Int32) = 0 by decide)]
    cases e : pTC T h cl (sbk T p) with
    | inl f =>
      rw [e] at hcx
      obtain ⟨f1, f2⟩ := hb.1 f e
      obtain ⟨D1, p1, e1, r1, l1, m1⟩ := hcx
      obtain ⟨D2, e2, r2, m2⟩ := r_goesOn hT (by omega) r1
      have hf0 : ¬ nI f = 0 := nI_ne0 (by omega) (by omega)
      rw [if_neg (fun x => hf0 x.1)] at e2 r2
      simp only
      intro _
      rw [e1, vbd_s, bnd_e, e2, cbd_s, endL _ _ _ (by omega)]
      exact ⟨D2, _, rfl, r2, m1.trans (p21_rm m2)⟩
    | inr w =>
      obtain ⟨h1, q1⟩ := w
      rw [e] at hcx
      have hq1 := hb.2 h1 q1 e
      obtain ⟨D1, p1, e1, r1, b1, l1, s1, m1⟩ := hcx
      obtain ⟨D2, e2, r2, m2⟩ := r_goesOn hT (by omega) r1
      rw [b1] at e2 r2
      have hkb := kd_b (T := T) (p := q1)
      simp only
      rw [e1, vbd_s, bnd_e, e2, cbd_s, nI_1]
      by_cases d1 : kd T q1 = 0
      · rw [if_pos d1]
        simp only
        rw [if_neg (show ¬ (True ∧ kd T q1 = 4) by omega), endL _ _ _ (by omega)]
        exact ⟨D2, _, rfl, r2.to rfl (by rw [if_neg (by omega)]), s1.p m2, m1.trans (p21_rm m2)⟩
      · rw [if_neg d1]
        by_cases d2 : kd T q1 = 4
        · have hq1' : q1 < tpL T := by
            have : ¬ tpL T ≤ q1 := fun x => d1 (kd_0.mpr x)
            omega
          have hnx : nx T q1 = q1 + 1 := kd_c1 (c := 59) hT rfl (by decide) (by decide) (by decide) (Or.inl rfl) d2
          rw [if_pos d2, if_pos (⟨rfl, d2⟩ : (0 : Int32) = 0 ∧ kd T q1 = 4)]
          have r2' : RP D2 T (q1 + 1) 0 := r2.to rfl (by rw [if_neg (by omega)])
          have ih' := ih fu (cl + 1) D2 h1 (q1 + 1) (by omega) (by omega) (by omega) r2' (s1.p m2)
          rw [show sbk T (q1 + 1) = nq T q1 by unfold nq; rw [hnx]] at ih'
          cases m with
          | zero =>
            exfalso
            have hcl40 : cl = 40 := by omega
            unfold pTC at e
            rw [hcl40] at e
            split at e
            · cases e
            · rw [if_pos (Or.inl (Nat.le_refl _))] at e
              cases e
          | succ m =>
            cases e3 : pTb T (m + 1) (cl + 1) h1 (nq T q1) with
            | inl f =>
              rw [e3] at ih'
              obtain ⟨D3, p3, e4, r3, m3⟩ := ih' (by omega)
              simp only
              intro _
              exact ⟨D3, p3, e4, r3, (m1.trans (p21_rm m2)).trans m3⟩
            | inr h2 =>
              rw [e3] at ih'
              obtain ⟨D3, p3, e4, r3, s3, m3⟩ := ih'
              simp only
              exact ⟨D3, p3, e4, r3, s3, (m1.trans (p21_rm m2)).trans m3⟩
        · rw [if_neg d2, if_neg (show ¬ ((0 : Int32) = 0 ∧ kd T q1 = 4) from fun x => d2 x.2)]
          simp only
          intro _
          rw [endL _ _ _ (by omega)]
          exact ⟨D2, _, rfl, r2.to rfl (by rw [if_pos ⟨rfl, d1, d2⟩]), m1.trans (p21_rm m2)⟩
