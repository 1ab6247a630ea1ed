/-! ===== the reference reads byte by byte ===== -/
def RT (D : Dt) (T : Tp) : Prop := D.1 (11, 0, 0, 0) 19 = nI (tpL T) ∧ ∀ k, k < tpL T → D.1 (11, 0, 30, 0) k = sgb (tpB T k)
def RP (D : Dt) (T : Tp) (p : Nat) (f : Int32) : Prop := RT D T ∧ D.1 (11, 0, 0, 0) 20 = nI p ∧ D.1 (11, 0, 0, 0) 21 = f
def p20 : LA → Nat → Bool := fun la k => la == (11, 0, 0, 0) && k == 20
def p21 : LA → Nat → Bool := fun la k => la == (11, 0, 0, 0) && (k == 20 || k == 21)
theorem p20_21 {D D' : Dt} (s : Sm p20 D D') : Sm p21 D D' := s.mono (fun la k e => by
  simp only [p20, p21, Bool.and_eq_false_iff, Bool.or_eq_false_iff] at e ⊢
  rcases e with e | e
  · exact Or.inl e
  · exact Or.inr e.1)
theorem RT.sm {S : LA → Nat → Bool} {D D' : Dt} {T : Tp} (h : RT D T) (s : Sm S D D') (z1 : S (11, 0, 0, 0) 19 = false) (z2 : ∀ k, S (11, 0, 30, 0) k = false) : RT D' T := ⟨by rw [s.i z1]; exact h.1, fun k hk => by rw [s.i (z2 k)]; exact h.2 k hk⟩
theorem sgb_255 : ∀ b, b < 256 → sgb b &&& 255 = nI b := by decide +kernel
theorem sgb_lr : ∀ b, b < 256 → (sgb b < 97 ∨ 122 < sgb b) = ¬ isLr b = true := by
  have : ∀ b, b < 256 → ((sgb b < 97 ∨ 122 < sgb b) ↔ ¬ isLr b = true) := by decide +kernel
  exact fun b hb => propext (this b hb)
theorem sgb_eq : ∀ b, b < 256 → ∀ c, c < 128 → (sgb b = nI c ↔ b = c) := by decide +kernel
theorem r_sgn {D : Dt} {T : Tp} {p : Nat} {f : Int32} (hT : okT T) (hp : p < 100000) (h : RP D T p f) : F_X11_sign D = some ((if p < tpL T then nI (tpB T p) else -1), D) := by
  have hL := hT.1
  rw [F_X11_sign, h.1.1, h.2.1]
  by_cases c : p < tpL T
  · rw [if_neg (nI_ge c (by omega)), grd_t (inBe (by omega) (by decide)), nIc (by omega), h.1.2 p c, sgb_255 _ (hT.2 p), if_pos c]
  · rw [if_pos (nI_le (by omega) (by omega)), if_neg c]
theorem RP.s20 {D : Dt} {T : Tp} {p p' : Nat} {f : Int32} (h : RP D T p f) : RP (setI D (11, 0, 0, 0) 20 (nI p')) T p' f ∧ Sm p20 D (setI D (11, 0, 0, 0) 20 (nI p')) := by
  have m : Sm p20 D (setI D (11, 0, 0, 0) 20 (nI p')) := Sm.sI (by simp [p20])
  exact ⟨⟨h.1.sm m (by simp [p20]) (fun k => by simp [p20]), gI_s, by rw [m.i (by simp [p20])]; exact h.2.2⟩, m⟩
theorem r_blk {D : Dt} {T : Tp} {p : Nat} {f : Int32} (hT : okT T) (hp : p < 100000) (h : RP D T p f) : ∃ D', F_X11_blanks D = some D' ∧ RP D' T (sbk T p) f ∧ Sm p20 D D' := by
  have hL := hT.1
  rw [F_X11_blanks]
  have key : ∀ m fu p D, tpL T ≤ p + m → p < 100000 → m < fu → RP D T p f → ∃ D', F_X11_blanks_b0 fu D = some D' ∧ RP D' T (sbk T p) f ∧ Sm p20 D D' := by
    intro m
    induction m with
    | zero =>
      intro fu p D hm hp hf h
      obtain ⟨fu, rfl⟩ : ∃ g, fu = g + 1 := ⟨fu - 1, by omega⟩
      rw [F_X11_blanks_b0, r_sgn hT hp h, cbd_s, if_neg (show ¬ p < tpL T by omega), if_neg (by decide)]
      refine ⟨D, rfl, ?_, Sm.refl⟩
      unfold sbk
      rw [spE_o (by omega)]
      exact h
    | succ m ih =>
      intro fu p D hm hp hf h
      obtain ⟨fu, rfl⟩ : ∃ g, fu = g + 1 := ⟨fu - 1, by omega⟩
      rw [F_X11_blanks_b0, r_sgn hT hp h, cbd_s]
      by_cases c : p < tpL T
      · have hb := hT.2 p
        rw [if_pos c]
        by_cases c2 : tpB T p = 32
        · obtain ⟨h1, m1⟩ := h.s20 (p' := p + 1)
          rw [if_pos (by rw [c2]; rfl), h.2.1, nI_1, bnd_e]
          obtain ⟨D', e, h2, m2⟩ := ih fu (p + 1) _ (by omega) (by omega) (by omega) h1
          refine ⟨D', e, ?_, m1.trans m2⟩
          unfold sbk
          rw [spE_s c, if_pos (by simpa using c2)]
          exact h2
        · rw [if_neg (show ¬ nI (tpB T p) = (32 : Int32) from fun e => c2 ((nI_eq (b := 32) (by omega) (by decide)).mp e))]
          refine ⟨D, rfl, ?_, Sm.refl⟩
          unfold sbk
          rw [spE_s c, if_neg (by simpa using c2)]
          exact h
      · rw [if_neg c, if_neg (by decide)]
        refine ⟨D, rfl, ?_, Sm.refl⟩
        unfold sbk
        rw [spE_o (by omega)]
        exact h
  exact key (tpL T) 2000 p D (by omega) hp (by omega) h
theorem r_isDg {D : Dt} {T : Tp} {p : Nat} {f : Int32} (hT : okT T) (hp : p < 100000) (h : RP D T p f) : F_X11_isDigit D = some ((if p < tpL T ∧ isDg (tpB T p) = true then 1 else 0), D) := by
  have e48 : (48 : Int64) = (48 : Int32).toInt64 := by decide
  have e57 : (57 : Int64) = (57 : Int32).toInt64 := by decide
  rw [F_X11_isDigit, r_sgn hT hp h, cbd_s, e48, e57, r_in, cbd_s]
  have hb := hT.2 p
  have hc : ((48 : Int32) ≤ (if p < tpL T then nI (tpB T p) else -1) ∧ (if p < tpL T then nI (tpB T p) else -1) ≤ 57) ↔ (p < tpL T ∧ isDg (tpB T p) = true) := by
    unfold isDg
    rw [decide_eq_true_eq]
    by_cases c : p < tpL T
    · rw [if_pos c, fa_le, fa_le, nI_toInt (by omega)]
      have e1 : (48 : Int32).toInt = 48 := rfl
      have e2 : (57 : Int32).toInt = 57 := rfl
      omega
    · rw [if_neg c]
      exact ⟨fun x => absurd x.1 (by decide), fun x => absurd x.1 c⟩
  simp only [hc]
  by_cases c : p < tpL T ∧ isDg (tpB T p) = true
  · rw [if_pos c, grd_t (Or.inr rfl)]
  · rw [if_neg c, grd_t (Or.inl rfl)]
theorem r_stood {D : Dt} {T : Tp} {p i : Nat} {f : Int32} (hT : okT T) (hp : p < 100000) (hi : i < 20) (hi2 : 2 ≤ lnS i) (h : RP D T p f) : F_X11_stood i D = some ((if mt T i p = true then 1 else 0), D) := by
  have hL := hT.1
  have hge : p ≤ eLr T p := spE_ge
  have hlb : lnS i ≤ 100 := by
    have : ∀ i, i < 20 → lnS i ≤ 100 := by decide +kernel
    exact this i hi
  have sl : sLen i = nI (lnS i) := rfl
  rw [F_X11_stood, grd_t hi, h.2.1, bnd_e]
  have ends : ∀ (kk : Int32 → Dt → Option (Int32 × Dt)) m fu x, tpL T ≤ x + m → p ≤ x → x < 100001 → m < fu → eLr T x = eLr T p → F_X11_stood_b5 i kk fu (nI x) D = kk (nI (eLr T p)) D := by
    intro kk m
    induction m with
    | zero =>
      intro fu x hm hx hx2 hf he
      obtain ⟨fu, rfl⟩ : ∃ g, fu = g + 1 := ⟨fu - 1, by omega⟩
      rw [F_X11_stood_b5, h.1.1, if_pos (nI_le (by omega) (by omega)), ← he, eLr, spE_o (by omega)]
    | succ m ih =>
      intro fu x hm hx hx2 hf he
      obtain ⟨fu, rfl⟩ : ∃ g, fu = g + 1 := ⟨fu - 1, by omega⟩
      by_cases c : x < tpL T
      · have hs := sgb_lr _ (hT.2 x)
        rw [F_X11_stood_b5, h.1.1, if_neg (nI_ge c (by omega)), grd_t (inBe (by omega) (by decide)), nIc (by omega), h.1.2 x c, bnd_e, nI_1]
        by_cases c2 : isLr (tpB T x) = true
        · have n1 : ¬ (sgb (tpB T x) < 97 ∨ 122 < sgb (tpB T x)) := by rw [hs]; exact fun y => y c2
          rw [if_neg (fun y => n1 (Or.inl y)), if_neg (fun y => n1 (Or.inr y))]
          refine ih fu (x + 1) (by omega) (by omega) (by omega) (by omega) ?_
          rw [← he, eLr, eLr, spE_s c, if_pos c2]
        · have n1 : sgb (tpB T x) < 97 ∨ 122 < sgb (tpB T x) := by rw [hs]; exact c2
          have ex : eLr T p = x := by rw [← he, eLr, spE_s c, if_neg c2]
          rw [ex]
          by_cases c3 : sgb (tpB T x) < 97
          · rw [if_pos c3]
          · rw [if_neg c3, if_pos (n1.resolve_left c3)]
      · rw [F_X11_stood_b5, h.1.1, if_pos (nI_le (by omega) (by omega)), ← he, eLr, spE_o (by omega)]
  rw [ends _ (tpL T) 2000 p (by omega) (Nat.le_refl _) (by omega) (by omega) rfl, h.2.1, pk_sub hge, sl]
  by_cases c : eLr T p - p = lnS i
  · have he : eLr T p ≤ tpL T := spE_le (by
      by_cases cc : p ≤ tpL T
      · exact cc
      · exfalso
        have : eLr T p = p := spE_o (by omega)
        omega)
    rw [if_pos (by rw [c]), F_X11_stood_b59]
    have cmp : ∀ m fu k, k + m = lnS i → m < fu → (∀ k', k' < k → tpB T (p + k') = chS i k') → F_X11_stood_b63 i fu 1 (nI k) D = some ((if mt T i p = true then 1 else 0), D) := by
      intro m
      induction m with
      | zero =>
        intro fu k hk hf hl
        obtain ⟨fu, rfl⟩ : ∃ g, fu = g + 1 := ⟨fu - 1, by omega⟩
        rw [F_X11_stood_b63, sl, if_pos (nI_le (by omega) (by omega)), grd_t (Or.inr rfl), if_pos]
        unfold mt
        rw [decide_eq_true_eq]
        exact ⟨c, fun k' hk' => hl k' (by omega)⟩
      | succ m ih =>
        intro fu k hk hf hl
        obtain ⟨fu, rfl⟩ : ∃ g, fu = g + 1 := ⟨fu - 1, by omega⟩
        obtain ⟨ce, cb⟩ := chS_e i hi k (by omega)
        rw [F_X11_stood_b63, sl, if_neg (nI_ge (by omega) (by omega)), if_neg (by decide), h.2.1, nI_add, grd_t (inBe (by omega) (by decide)), show lenS.getD i 0 = lnS i from rfl, grd_t (inBe (by omega) (by omega)), nIc (by omega), h.1.2 (p + k) (by omega), ce]
        simp only [F_X11_stood_b102, bnd_e, nI_1]
        have hq := sgb_eq (tpB T (p + k)) (hT.2 _) (chS i k) cb
        by_cases c2 : tpB T (p + k) = chS i k
        · rw [if_pos (hq.mpr c2)]
          exact ih fu (k + 1) (by omega) (by omega) (fun k' hk' => by
            by_cases ck : k' = k
            · rw [ck]; exact c2
            · exact hl k' (by omega))
        · rw [if_neg (fun y => c2 (hq.mp y))]
          obtain ⟨fu, rfl⟩ : ∃ g, fu = g + 1 := ⟨fu - 1, by omega⟩
          rw [F_X11_stood_b63, if_pos rfl, ite_self, grd_t (Or.inl rfl), if_neg]
          unfold mt
          rw [decide_eq_true_eq]
          exact fun y => c2 (y.2 k (by omega))
    exact cmp (lnS i) 2000 0 (by omega) (by omega) (fun k' hk' => absurd hk' (by omega))
  · rw [if_neg (fun e => c ((nI_eq (by
        by_cases cc : p ≤ tpL T
        · have : eLr T p ≤ tpL T := spE_le cc
          omega
        · have : eLr T p = p := spE_o (by omega)
          omega) (by omega)).mp e)), F_X11_stood_b59, show (2000 : Nat) = 1999 + 1 from rfl, F_X11_stood_b63, if_pos rfl, ite_self, grd_t (Or.inl rfl), if_neg]
    unfold mt
    rw [decide_eq_true_eq]
    exact fun y => c y.1
theorem sx_b : ∀ k, k < 18 → sx k < 20 ∧ 2 ≤ lnS (sx k) := by decide +kernel
theorem kd_mt {T : Tp} {q k : Nat} (hk : k < 18) : mt T (sx k) q = true ↔ kd T q = 20 + k := by
  have h2 := (sx_b k hk).2
  have hg := sgK_b (tpB T q)
  by_cases c : tpL T ≤ q
  · have e : eLr T q = q := spE_o c
    rw [kd_0.mpr c]
    unfold mt
    rw [decide_eq_true_eq, e]
    exact ⟨fun x => by omega, fun x => by omega⟩
  · by_cases c2 : isLr (tpB T q) = true
    · have c3 : ¬ isDg (tpB T q) = true := by
        unfold isLr at c2
        unfold isDg
        rw [decide_eq_true_eq] at c2 ⊢
        omega
      have e : kd T q = wc T q := by unfold kd; rw [if_neg c, if_neg c3, if_pos c2]
      rw [e]
      exact mt_wc hk
    · have e : eLr T q = q := by unfold eLr; rw [spE_s (by omega), if_neg c2]
      unfold mt
      rw [decide_eq_true_eq, e]
      refine ⟨fun x => by omega, fun x => ?_⟩
      exfalso
      unfold kd at x
      rw [if_neg c, if_neg c2] at x
      split at x
      · split at x <;> omega
      · split at x
        · split at x <;> omega
        · omega
theorem kd_nx {T : Tp} {q k : Nat} (hk : k < 18) (h : kd T q = 20 + k) : nx T q = q + lnS (sx k) := by
  have hm := (kd_mt hk).mpr h
  have h2 := (sx_b k hk).2
  unfold mt at hm
  rw [decide_eq_true_eq] at hm
  have hg := sgK_b (tpB T q)
  have c : ¬ tpL T ≤ q := fun x => by have := kd_0.mpr x; omega
  have hge : q ≤ eLr T q := spE_ge
  have c2 : isLr (tpB T q) = true := by
    by_cases c2 : isLr (tpB T q) = true
    · exact c2
    · have e : eLr T q = q := by unfold eLr; rw [spE_s (by omega), if_neg c2]
      omega
  have c3 : ¬ isDg (tpB T q) = true := by
    unfold isLr at c2
    unfold isDg
    rw [decide_eq_true_eq] at c2 ⊢
    omega
  unfold nx
  rw [if_neg c, if_neg c3, if_pos c2]
  omega
theorem r_word {D : Dt} {T : Tp} {p k : Nat} {f : Int32} (hT : okT T) (hp : p < 100000) (hk : k < 18) (h : RP D T p f) : F_X11_stood (sx k) D = some ((if kd T p = 20 + k then 1 else 0), D) := by
  obtain ⟨h1, h2⟩ := sx_b k hk
  rw [r_stood hT hp h1 h2 h]
  simp only [kd_mt hk]
def ft (f g : Int32) : Int32 := if f = 0 then g else f
theorem r_fails {D : Dt} {T : Tp} {p x c : Nat} {f : Int32} (h : RP D T p f) : ∃ D', F_X11_fails (nI c) (nI x) D = some D' ∧ RP D' T p (ft f (nI (1 + 8 * x + c))) ∧ Sm (fun la k => la == (11, 0, 0, 0) && k == 21) D D' := by
  have m : ∀ v, Sm (fun la k => la == (11, 0, 0, 0) && k == 21) D (setI D (11, 0, 0, 0) 21 v) := fun v => Sm.sI (by simp)
  have g : ∀ v, RP (setI D (11, 0, 0, 0) 21 v) T p v := fun v => ⟨h.1.sm (m v) (by simp) (fun k => by simp), by rw [(m v).i (by simp)]; exact h.2.1, gI_s⟩
  rw [F_X11_fails, h.2.2, show (8 : Int32) = nI 8 from rfl, pk_mul, show (1 : Int32) = nI 1 from rfl, nI_add, nI_add]
  unfold ft
  by_cases c0 : f = 0
  · rw [if_pos c0, if_pos c0, F_X11_fails_b23, bnd_e]
    exact ⟨_, rfl, g _, m _⟩
  · rw [if_neg c0, if_neg c0, F_X11_fails_b23, bnd_e]
    exact ⟨_, rfl, g _, m _⟩
theorem m21 {D D' : Dt} (s : Sm (fun la k => la == (11, 0, 0, 0) && k == 21) D D') : Sm p21 D D' := s.mono (fun la k e => by
  simp only [p21, Bool.and_eq_false_iff, Bool.or_eq_false_iff] at e ⊢
  rcases e with e | e
  · exact Or.inl e
  · exact Or.inr e.2)
theorem dg_p {T : Tp} {p : Nat} : (p < tpL T ∧ isDg (tpB T p) = true) ↔ (kd T p = 1 ∨ kd T p = 2) := by
  have hg := sgK_b (tpB T p)
  have hw := wc_b (T := T) (p := p)
  constructor
  · rintro ⟨h1, h2⟩
    unfold kd
    rw [if_neg (by omega), if_pos h2]
    split <;> omega
  · intro h
    have c : ¬ tpL T ≤ p := fun x => by have := kd_0.mpr x; omega
    refine ⟨by omega, ?_⟩
    by_cases c2 : isDg (tpB T p) = true
    · exact c2
    · exfalso
      unfold kd at h
      rw [if_neg c, if_neg c2] at h
      split at h
      · omega
      · split at h
        · split at h <;> omega
        · omega
theorem r_digits {D : Dt} {T : Tp} {p : Nat} {f : Int32} (hT : okT T) (hp : p < 100000) (h : RP D T p f) : ∃ D', F_X11_digits 99999 D = some ((if kd T p = 1 then nI (nm T p) else if kd T p = 2 then nI (dgv (tpB T) p 5) else 0), D') ∧ RP D' T (if kd T p = 1 ∨ kd T p = 2 then eDg T p else p) (if kd T p = 1 then f else if kd T p = 2 then ft f (nI (1 + 8 * p + 1)) else ft f (nI (1 + 8 * p))) ∧ Sm p21 D D' := by
  have hL := hT.1
  rw [F_X11_digits, r_isDg hT hp h, cbd_s]
  simp only [dg_p]
  by_cases c : kd T p = 1 ∨ kd T p = 2
  · obtain ⟨hpl, hd0⟩ := dg_p.mpr c
    have hge : p ≤ eDg T p := spE_ge
    have hle : eDg T p ≤ tpL T := spE_le (by omega)
    have hdig : ∀ k, p ≤ k → k < eDg T p → isDg (tpB T k) = true := fun k h1 h2 => spE_in (P := fun k => isDg (tpB T k)) (L := tpL T) (p := p) h1 h2
    rw [i1t c, h.2.1, bnd_e, if_pos c]
    have key : ∀ (kk : Int32 → Int32 → Int32 → Dt → Option (Int32 × Dt)) m fu j E, p + j + m = eDg T p → m < fu → RP E T (p + j) f → Sm p20 D E → ∃ E', F_X11_digits_b25 99999 kk fu 99999 (nI p) (nI (dgv (tpB T) p (min j 5))) E = kk 99999 (nI p) (nI (dgv (tpB T) p (min (eDg T p - p) 5))) E' ∧ RP E' T (eDg T p) f ∧ Sm p20 D E' := by
      intro kk m
      induction m with
      | zero =>
        intro fu j E hj hf hr hs
        obtain ⟨fu, rfl⟩ : ∃ g, fu = g + 1 := ⟨fu - 1, by omega⟩
        have hend : ¬ (p + j < tpL T ∧ isDg (tpB T (p + j)) = true) := fun x => by
          have e1 : eDg T p = p + j := by omega
          have := spE_at (P := fun k => isDg (tpB T k)) (L := tpL T) (p := p) (by rw [show spE (fun k => isDg (tpB T k)) (tpL T) p = p + j from e1]; exact x.1)
          rw [show spE (fun k => isDg (tpB T k)) (tpL T) p = p + j from e1] at this
          rw [x.2] at this
          cases this
        rw [F_X11_digits_b25, r_isDg hT (by omega) hr, cbd_s, i1f hend, show eDg T p - p = j by omega]
        exact ⟨E, rfl, by rw [show eDg T p = p + j by omega]; exact hr, hs⟩
      | succ m ih =>
        intro fu j E hj hf hr hs
        obtain ⟨fu, rfl⟩ : ∃ g, fu = g + 1 := ⟨fu - 1, by omega⟩
        have hd := hdig (p + j) (by omega) (by omega)
        have hd' := hd
        unfold isDg at hd'
        rw [decide_eq_true_eq] at hd'
        obtain ⟨h1, m1⟩ := hr.s20 (p' := p + (j + 1))
        have e1 : nI (p + j) + 1 = nI (p + (j + 1)) := by rw [nI_1]; rfl
        rw [F_X11_digits_b25, r_isDg hT (by omega) hr, cbd_s, i1t ⟨by omega, hd⟩, hr.2.1, pk_sub (by omega), show p + j - p = j by omega, r_sgn hT (by omega) hr, cbd_s, if_pos (show p + j < tpL T by omega)]
        simp only [F_X11_digits_b58, hr.2.1, e1, bnd_e]
        have nx := ih fu (j + 1) _ (by omega) (by omega) h1 (hs.trans m1)
        by_cases c5 : 5 ≤ j
        · rw [if_pos (show (5 : Int32) ≤ nI j from nI_le (a := 5) c5 (by omega)), show min j 5 = min (j + 1) 5 by omega]
          exact nx
        · rw [if_neg (show ¬ (5 : Int32) ≤ nI j from nI_ge (b := 5) (by omega) (by decide)), show (10 : Int32) = nI 10 from rfl, pk_mul, nI_add, show nI (10 * dgv (tpB T) p (min j 5) + tpB T (p + j)) - 48 = nI (10 * dgv (tpB T) p (min j 5) + tpB T (p + j) - 48) from pk_sub (b := 48) (by omega), show 10 * dgv (tpB T) p (min j 5) + tpB T (p + j) - 48 = dgv (tpB T) p (min (j + 1) 5) by rw [show min (j + 1) 5 = j + 1 by omega, show min j 5 = j by omega, dgv]; omega]
          exact nx
    obtain ⟨E, e, hr, hs⟩ := key (fun l1_23 l2_24 l3_25 D26 => (if (5 : Int32) < ((D26.1 (11, 0, 0, 0) 20) - l2_24) then (F_X11_digits_b87 99999 l2_24 l3_25 D26) else (if l3_25 ≤ l1_23 then (some (l3_25, D26)) else (F_X11_digits_b87 99999 l2_24 l3_25 D26)))) (eDg T p - p) 2000 0 D (by omega) (by omega) h Sm.refl
    rw [show F_X11_digits_b25 99999 _ 2000 99999 (nI p) 0 D = _ from e, hr.2.1, pk_sub hge]
    have hvb := dgv_b (B := tpB T) (p := p) (min (eDg T p - p) 5) (fun k hk => hdig (p + k) (by omega) (by omega))
    have hpw : 10 ^ (min (eDg T p - p) 5) ≤ 10 ^ 5 := Nat.pow_le_pow_right (by decide) (by omega)
    have hp5 : (10 : Nat) ^ 5 = 100000 := by decide
    have hkd : kd T p = if eDg T p - p ≤ 5 then 1 else 2 := by unfold kd; rw [if_neg (by omega), if_pos hd0]
    by_cases c5 : eDg T p - p ≤ 5
    · rw [if_pos c5] at hkd
      rw [if_neg (show ¬ (5 : Int32) < nI (eDg T p - p) from nI_nlt (a := 5) (by omega) (by decide)), if_pos (show nI (dgv (tpB T) p (min (eDg T p - p) 5)) ≤ (99999 : Int32) from nI_le (b := 99999) (by omega) (by decide)), if_pos hkd, if_pos hkd, show min (eDg T p - p) 5 = eDg T p - p by omega]
      exact ⟨E, rfl, hr, p20_21 hs⟩
    · rw [if_neg c5] at hkd
      obtain ⟨E2, e2, hr2, m2⟩ := r_fails (x := p) (c := 1) hr
      rw [if_pos (show (5 : Int32) < nI (eDg T p - p) from nI_lt (a := 5) (by omega) (by omega)), F_X11_digits_b87, show F_X11_fails 1 (nI p) E = _ from e2, vbd_s, if_neg (by omega), if_pos hkd, if_neg (by omega), if_pos hkd, show min (eDg T p - p) 5 = 5 by omega]
      exact ⟨E2, rfl, hr2, (p20_21 hs).trans (m21 m2)⟩
  · obtain ⟨D', e, hr, m⟩ := r_fails (x := p) (c := 0) h
    rw [i1f c, h.2.1, show F_X11_fails 0 (nI p) D = _ from e, vbd_s, if_neg (by omega), if_neg (by omega), if_neg c, if_neg (by omega), if_neg (by omega)]
    exact ⟨D', rfl, hr, m21 m⟩
