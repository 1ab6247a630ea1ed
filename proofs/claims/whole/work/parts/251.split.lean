/-! ===== the class splits the tape ===== -/
def okT (T : Tp) : Prop := tpL T ≤ 400 ∧ ∀ k, tpB T k < 256
def TCr (D : Dt) (T : Tp) : Prop := D.1 (2, 0, 0, 0) 1 = nI (tpL T) ∧ ∀ k, k < tpL T → D.1 (2, 0, 1, 0) k = nI (tpB T k)
def spS : LA → Nat → Bool := fun la k => la == (2, 0, 3, 0) || la == (2, 0, 4, 0) || la == (2, 0, 5, 0) || (la == (2, 0, 0, 0) && decide (5 ≤ k ∧ k ≤ 8))
theorem TCr.sm {D D' : Dt} {T : Tp} (h : TCr D T) (s : Sm spS D D') : TCr D' T := ⟨by rw [s.i (by simp [spS])]; exact h.1, fun k hk => by rw [s.i (by simp [spS])]; exact h.2 k hk⟩
theorem c_isDg {b : Nat} {D : Dt} (hb : b < 256) : F_X2_isDigit (nI b) D = some ((if isDg b = true then 1 else 0), D) := by
  unfold F_X2_isDigit isDg
  simp only [decide_eq_true_eq]
  by_cases c1 : b < 48
  · rw [if_pos (show nI b < (48 : Int32) from nI_lt (b := 48) c1 (by decide)), if_neg (by omega)]
  · rw [if_neg (show ¬ nI b < (48 : Int32) from nI_nlt (b := 48) (by omega) (by omega))]
    by_cases c2 : 57 < b
    · rw [if_pos (show (57 : Int32) < nI b from nI_lt (a := 57) c2 (by omega)), if_neg (by omega)]
    · rw [if_neg (show ¬ (57 : Int32) < nI b from nI_nlt (a := 57) (by omega) (by decide)), if_pos (by omega)]
theorem c_isLr {b : Nat} {D : Dt} (hb : b < 256) : F_X2_isLetter (nI b) D = some ((if isLr b = true then 1 else 0), D) := by
  unfold F_X2_isLetter isLr
  simp only [decide_eq_true_eq]
  by_cases c1 : b < 97
  · rw [if_pos (show nI b < (97 : Int32) from nI_lt (b := 97) c1 (by decide)), if_neg (by omega)]
  · rw [if_neg (show ¬ nI b < (97 : Int32) from nI_nlt (b := 97) (by omega) (by omega))]
    by_cases c2 : 122 < b
    · rw [if_pos (show (122 : Int32) < nI b from nI_lt (a := 122) c2 (by omega)), if_neg (by omega)]
    · rw [if_neg (show ¬ (122 : Int32) < nI b from nI_nlt (a := 122) (by omega) (by decide)), if_pos (by omega)]
theorem c_behD {T : Tp} {D : Dt} {a1 : Int32} (hT : okT T) (h : TCr D T) : ∀ m fu p, p + m = tpL T → m < fu → F_X2_behindDigits_b2 a1 fu (nI p) D = some (nI (eDg T p), D) := by
  have hL := hT.1
  intro m
  induction m with
  | zero =>
    intro fu p hp hf
    obtain ⟨fu, rfl⟩ : ∃ g, fu = g + 1 := ⟨fu - 1, by omega⟩
    rw [F_X2_behindDigits_b2, h.1, if_pos (nI_le (by omega) (by omega)), eDg, spE_o (by omega), show tpL T = p by omega]
  | succ m ih =>
    intro fu p hp hf
    obtain ⟨fu, rfl⟩ : ∃ g, fu = g + 1 := ⟨fu - 1, by omega⟩
    rw [F_X2_behindDigits_b2, h.1, if_neg (nI_ge (by omega) (by omega)), grd_t (inBe (by omega) (by decide)), nIc (by omega), h.2 p (by omega), c_isDg (hT.2 p), cbd_s, eDg, spE_s (by omega)]
    by_cases c : isDg (tpB T p) = true
    · rw [i1t c, if_pos c, bnd_e, nI_1]
      exact ih fu (p + 1) (by omega) (by omega)
    · rw [i1f c, if_neg c]
theorem c_behL {T : Tp} {D : Dt} {a1 : Int32} (hT : okT T) (h : TCr D T) : ∀ m fu p, p + m = tpL T → m < fu → F_X2_behindLetters_b2 a1 fu (nI p) D = some (nI (eLr T p), D) := by
  have hL := hT.1
  intro m
  induction m with
  | zero =>
    intro fu p hp hf
    obtain ⟨fu, rfl⟩ : ∃ g, fu = g + 1 := ⟨fu - 1, by omega⟩
    rw [F_X2_behindLetters_b2, h.1, if_pos (nI_le (by omega) (by omega)), eLr, spE_o (by omega), show tpL T = p by omega]
  | succ m ih =>
    intro fu p hp hf
    obtain ⟨fu, rfl⟩ : ∃ g, fu = g + 1 := ⟨fu - 1, by omega⟩
    rw [F_X2_behindLetters_b2, h.1, if_neg (nI_ge (by omega) (by omega)), grd_t (inBe (by omega) (by decide)), nIc (by omega), h.2 p (by omega), c_isLr (hT.2 p), cbd_s, eLr, spE_s (by omega)]
    by_cases c : isLr (tpB T p) = true
    · rw [i1t c, if_pos c, bnd_e, nI_1]
      exact ih fu (p + 1) (by omega) (by omega)
    · rw [i1f c, if_neg c]
theorem c_tadd {D : Dt} {n : Nat} {a b v : Int32} (hn : n ≤ 400) (h : D.1 (2, 0, 0, 0) 5 = nI n) : ∃ D', F_X2_add a b v D = some D' ∧ D'.1 (2, 0, 0, 0) 5 = nI (n + 1) ∧ (D'.1 (2, 0, 3, 0) n = a ∧ D'.1 (2, 0, 4, 0) n = b ∧ D'.1 (2, 0, 5, 0) n = v) ∧ (∀ k, k ≠ n → D'.1 (2, 0, 3, 0) k = D.1 (2, 0, 3, 0) k ∧ D'.1 (2, 0, 4, 0) k = D.1 (2, 0, 4, 0) k ∧ D'.1 (2, 0, 5, 0) k = D.1 (2, 0, 5, 0) k) ∧ (∀ k, 6 ≤ k → D'.1 (2, 0, 0, 0) k = D.1 (2, 0, 0, 0) k) ∧ Sm spS D D' := by
  have e1 : (setI D (2, 0, 3, 0) n a).1 (2, 0, 0, 0) 5 = nI n := by rw [gI, if_neg (by simp)]; exact h
  have e2 : (setI (setI D (2, 0, 3, 0) n a) (2, 0, 4, 0) n b).1 (2, 0, 0, 0) 5 = nI n := by rw [gI, if_neg (by simp)]; exact e1
  have e3 : (setI (setI (setI D (2, 0, 3, 0) n a) (2, 0, 4, 0) n b) (2, 0, 5, 0) n v).1 (2, 0, 0, 0) 5 = nI n := by rw [gI, if_neg (by simp)]; exact e2
  have hb := inBe (show n < 401 by omega) (by decide)
  have hc : (nI n).toNatClampNeg = n := nIc (by omega)
  rw [F_X2_add, h, if_neg (show ¬ (400 : Int32) < nI n from nI_nlt (a := 400) (by omega) (by decide)), grd_t hb, hc, bnd_e, e1, grd_t hb, hc, bnd_e, e2, grd_t hb, hc, bnd_e, e3, nI_1, bnd_e]
  refine ⟨_, rfl, gI_s, ⟨?_, ?_, ?_⟩, fun k hk => ⟨?_, ?_, ?_⟩, fun k hk => ?_, ?_⟩
  · simp [gI]
  · simp [gI]
  · simp [gI]
  · simp [gI, hk]
  · simp [gI, hk]
  · simp [gI, hk]
  · have : ¬ k = 5 := by omega
    simp [gI, this]
  · exact (((Sm.sI (by simp [spS])).trans (Sm.sI (by simp [spS]))).trans (Sm.sI (by simp [spS]))).trans (Sm.sI (by simp [spS]))
theorem c_addNumL {T : Tp} {D : Dt} {a1 a2 : Int32} {kk : Int32 → Int32 → Dt → Option Dt} {p e : Nat} (hT : okT T) (h : TCr D T) (he : e ≤ tpL T) (hd : ∀ k, p ≤ k → k < e → isDg (tpB T k) = true) (h5 : e - p ≤ 5) : ∀ m fu j, p + j + m = e → m < fu → F_X2_addNumber_b20 a1 a2 kk fu (nI p) (nI e) (nI (dgv (tpB T) p j)) (nI (p + j)) D = kk (nI p) (nI (dgv (tpB T) p (e - p))) D := by
  have hL := hT.1
  intro m
  induction m with
  | zero =>
    intro fu j hj hf
    obtain ⟨fu, rfl⟩ : ∃ g, fu = g + 1 := ⟨fu - 1, by omega⟩
    rw [F_X2_addNumber_b20, if_pos (nI_le (by omega) (by omega)), show e - p = j by omega]
  | succ m ih =>
    intro fu j hj hf
    obtain ⟨fu, rfl⟩ : ∃ g, fu = g + 1 := ⟨fu - 1, by omega⟩
    have h1 := hd (p + j) (by omega) (by omega)
    unfold isDg at h1
    rw [decide_eq_true_eq] at h1
    rw [F_X2_addNumber_b20, if_neg (nI_ge (by omega) (by omega)), grd_t (inBe (by omega) (by decide)), nIc (by omega), h.2 (p + j) (by omega), show (10 : Int32) = nI 10 from rfl, pk_mul, nI_add, show nI (dgv (tpB T) p j * 10 + tpB T (p + j)) - 48 = nI (dgv (tpB T) p j * 10 + tpB T (p + j) - 48) from pk_sub (b := 48) (by omega), bnd_e, bnd_e, nI_1, show dgv (tpB T) p j * 10 + tpB T (p + j) - 48 = dgv (tpB T) p (j + 1) by rw [dgv]; omega]
    exact ih fu (j + 1) (by omega) (by omega)
theorem c_addNum {T : Tp} {D : Dt} {p : Nat} (hT : okT T) (h : TCr D T) (hp : p < tpL T) : F_X2_addNumber (nI p) (nI (eDg T p)) D = (if eDg T p - p ≤ 5 then F_X2_add 1 (nI p) (nI (nm T p)) D else F_X2_add 2 (nI p) 0 D) := by
  have hL := hT.1
  have he := spE_le (P := fun k => isDg (tpB T k)) (L := tpL T) (p := p) (by omega)
  have hge := spE_ge (P := fun k => isDg (tpB T k)) (L := tpL T) (p := p)
  have hv : ∀ x : Option Dt, vbd x (fun D10 => some D10) = x := fun x => by cases x <;> rfl
  have he' : eDg T p ≤ tpL T := he
  have hge' : p ≤ eDg T p := hge
  rw [F_X2_addNumber, pk_sub hge']
  by_cases c : eDg T p - p ≤ 5
  · rw [if_pos (show nI (eDg T p - p) ≤ (5 : Int32) from nI_le (b := 5) c (by decide)), if_pos c]
    have := c_addNumL (a1 := nI p) (a2 := nI (eDg T p)) (kk := (fun l1_6 l3_7 D8 => (vbd (F_X2_add (1 : Int32) l1_6 l3_7 D8) (fun D10 => (some D10))))) hT h he' (fun k h1 h2 => spE_in (P := fun k => isDg (tpB T k)) (L := tpL T) (p := p) h1 h2) c (eDg T p - p) 2000 0 (by omega) (by omega)
    refine Eq.trans this ?_
    simp only [hv]
    rfl
  · rw [if_neg (show ¬ nI (eDg T p - p) ≤ (5 : Int32) from nI_ge (a := 5) (by omega) (by omega)), if_neg c, hv]
/-! words -/
def bkL : List Nat := [0, 5, 11, 15, 19, 23, 28, 37, 46, 55, 60, 65, 70, 76, 80, 83, 87, 91]
def bk (k : Nat) : Nat := bkL.getD k 0
theorem bk_f : ∀ k, k < 18 → bk k + lnS (sx k) ≤ 93 ∧ (∀ i, i < lnS (sx k) → ¬ sChr 0 (nI (bk k + i)) = 32 ∧ sChr 0 (nI (bk k + i)) = nI (chS (sx k) i)) ∧ (k < 17 → bk k + lnS (sx k) < 93 ∧ sChr 0 (nI (bk k + lnS (sx k))) = 32 ∧ bk (k + 1) = bk k + lnS (sx k) + 1) ∧ (k = 17 → bk k + lnS (sx k) = 93) ∧ lnS (sx k) ≤ 8 := by decide +kernel
theorem chS_b : ∀ k, k < 18 → ∀ i, i < lnS (sx k) → chS (sx k) i < 128 := by decide +kernel
theorem c_isWord {T : Tp} {D : Dt} {p k : Nat} (hT : okT T) (h : TCr D T) (hk : k < 18) (hp : p + lnS (sx k) ≤ tpL T) : ∃ r, F_X2_isWord (nI (bk k)) (nI (bk k + lnS (sx k))) (nI p) D = some (r, D) ∧ (r = 1 ∧ (∀ i, i < lnS (sx k) → tpB T (p + i) = chS (sx k) i) ∨ r = 0 ∧ ¬ (∀ i, i < lnS (sx k) → tpB T (p + i) = chS (sx k) i)) := by
  have hL := hT.1
  obtain ⟨b1, b2, _, _, b5⟩ := bk_f k hk
  rw [F_X2_isWord]
  have key : ∀ m fu i, i + m = lnS (sx k) → m < fu → (∀ i', i' < i → tpB T (p + i') = chS (sx k) i') → ∃ r, F_X2_isWord_b3 (nI (bk k)) (nI (bk k + lnS (sx k))) (nI p) fu (nI (bk k)) (nI (bk k + lnS (sx k))) (nI p) (nI (bk k + i)) D = some (r, D) ∧ (r = 1 ∧ (∀ i, i < lnS (sx k) → tpB T (p + i) = chS (sx k) i) ∨ r = 0 ∧ ¬ (∀ i, i < lnS (sx k) → tpB T (p + i) = chS (sx k) i)) := by
    intro m
    induction m with
    | zero =>
      intro fu i hi hf hl
      obtain ⟨fu, rfl⟩ : ∃ g, fu = g + 1 := ⟨fu - 1, by omega⟩
      rw [F_X2_isWord_b3, if_pos (nI_le (by omega) (by omega))]
      exact ⟨1, rfl, Or.inl ⟨rfl, fun i' hi' => hl i' (by omega)⟩⟩
    | succ m ih =>
      intro fu i hi hf hl
      obtain ⟨fu, rfl⟩ : ∃ g, fu = g + 1 := ⟨fu - 1, by omega⟩
      have hix : nI p + nI (bk k + i) - nI (bk k) = nI (p + i) := by rw [nI_add, pk_sub (by omega)]; congr 1; omega
      have hB := hT.2 (p + i)
      have hC := chS_b k hk i (by omega)
      rw [F_X2_isWord_b3, if_neg (nI_ge (by omega) (by omega)), show lenS.getD 0 0 = 93 from rfl, grd_t (inBe (by omega) (by decide)), hix, grd_t (inBe (show p + i < 400 by omega) (by decide)), nIc (by omega), (b2 i (by omega)).2, h.2 (p + i) (by omega), bnd_e, nI_1]
      by_cases c : tpB T (p + i) = chS (sx k) i
      · rw [if_pos (by rw [c])]
        exact ih fu (i + 1) (by omega) (by omega) (fun i' hi' => by
          by_cases ci : i' = i
          · rw [ci]; exact c
          · exact hl i' (by omega))
      · rw [if_neg (fun e => c ((nI_eq (by omega) (by omega)).mp e).symm)]
        exact ⟨0, rfl, Or.inr ⟨rfl, fun g => c (g i (by omega))⟩⟩
  exact key (lnS (sx k)) 2000 0 (by omega) (by omega) (fun i' hi' => absurd hi' (by omega))
theorem c_wordOf {T : Tp} {D : Dt} {p : Nat} (hT : okT T) (h : TCr D T) (hp : p < tpL T) : F_X2_wordOf (nI p) (nI (eLr T p)) D = some (nI (wc T p), D) := by
  have hL := hT.1
  have he : eLr T p ≤ tpL T := spE_le (by omega)
  have hge : p ≤ eLr T p := spE_ge
  rw [F_X2_wordOf]
  have word : ∀ (m fu k i : Nat), k < 18 → i + m = lnS (sx k) → m < fu → F_X2_wordOf_b9 (nI p) (nI (eLr T p)) fu (nI p) (nI (eLr T p)) (nI (20 + k)) (nI (bk k)) (nI (bk k + i)) D = F_X2_wordOf_b9 (nI p) (nI (eLr T p)) (fu - m) (nI p) (nI (eLr T p)) (nI (20 + k)) (nI (bk k)) (nI (bk k + lnS (sx k))) D := by
    intro m
    induction m with
    | zero =>
      intro fu k i hk hi hf
      rw [show i = lnS (sx k) by omega, Nat.sub_zero]
    | succ m ih =>
      intro fu k i hk hi hf
      obtain ⟨b1, b2, _, _, b5⟩ := bk_f k hk
      obtain ⟨fu, rfl⟩ : ∃ g, fu = g + 1 := ⟨fu - 1, by omega⟩
      rw [F_X2_wordOf_b9, show sLen 0 = nI 93 from rfl, if_neg (nI_nlt (by omega) (by omega)), if_neg (fun e => by have := (nI_eq (by omega) (by omega)).mp e; omega), show lenS.getD 0 0 = 93 from rfl, grd_t (inBe (by omega) (by decide)), if_neg (b2 i (by omega)).1, F_X2_wordOf_b75, bnd_e, nI_1]
      rw [show bk k + i + 1 = bk k + (i + 1) by omega, ih fu k (i + 1) hk (by omega) (by omega), show fu + 1 - (m + 1) = fu - m by omega]
  have key : ∀ (m fu k : Nat), k + m = 18 → 20 * m < fu → F_X2_wordOf_b9 (nI p) (nI (eLr T p)) fu (nI p) (nI (eLr T p)) (nI (20 + k)) (nI (if k = 18 then 94 else bk k)) (nI (if k = 18 then 94 else bk k)) D = some (nI (wcF T p m k), D) := by
    intro m
    induction m with
    | zero =>
      intro fu k hk hf
      obtain ⟨fu, rfl⟩ : ∃ g, fu = g + 1 := ⟨fu - 1, by omega⟩
      rw [if_pos (by omega), F_X2_wordOf_b9, show sLen 0 = nI 93 from rfl, if_pos (nI_lt (by omega) (by omega))]
      rfl
    | succ m ih =>
      intro fu k hk hf
      obtain ⟨b1, b2, b3, b4, b5⟩ := bk_f k (by omega)
      rw [if_neg (show ¬ k = 18 by omega), show F_X2_wordOf_b9 (nI p) (nI (eLr T p)) fu (nI p) (nI (eLr T p)) (nI (20 + k)) (nI (bk k)) (nI (bk k)) D = _ from word (lnS (sx k)) fu k 0 (by omega) (by omega) (by omega)]
      obtain ⟨g, hg⟩ : ∃ g, fu - lnS (sx k) = g + 1 := ⟨fu - lnS (sx k) - 1, by omega⟩
      rw [hg]
      have nxt : F_X2_wordOf_b66 (nI p) (nI (eLr T p)) (fun l1_29 l2_30 l3_31 l4_32 l5_33 D34 => (F_X2_wordOf_b9 (nI p) (nI (eLr T p)) g l1_29 l2_30 l3_31 l4_32 l5_33 D34)) (nI p) (nI (eLr T p)) (nI (20 + k)) (nI (bk k + lnS (sx k))) D = some (nI (wcF T p m (k + 1)), D) := by
        have ih' := ih g (k + 1) (by omega) (by omega)
        have hb : (if k + 1 = 18 then 94 else bk (k + 1)) = bk k + lnS (sx k) + 1 := by
          by_cases c : k < 17
          · rw [if_neg (by omega), (b3 c).2.2]
          · rw [if_pos (by omega), b4 (by omega)]
        rw [hb] at ih'
        rw [F_X2_wordOf_b66, bnd_e, bnd_e, F_X2_wordOf_b75, bnd_e, nI_1, nI_1]
        exact ih'
      have c41 : F_X2_wordOf_b41 (nI p) (nI (eLr T p)) (fun l1_29 l2_30 l3_31 l4_32 l5_33 D34 => (F_X2_wordOf_b9 (nI p) (nI (eLr T p)) g l1_29 l2_30 l3_31 l4_32 l5_33 D34)) (nI p) (nI (eLr T p)) (nI (20 + k)) (nI (bk k)) (nI (bk k + lnS (sx k))) D = some (nI (wcF T p (m + 1) k), D) := by
        rw [F_X2_wordOf_b41, pk_sub (by omega), pk_sub hge, show bk k + lnS (sx k) - bk k = lnS (sx k) by omega, wcF]
        by_cases c : eLr T p - p = lnS (sx k)
        · obtain ⟨r, er, hr⟩ := c_isWord (p := p) hT h (show k < 18 by omega) (by omega)
          rw [if_pos (by rw [c]), er, cbd_s]
          rcases hr with ⟨rfl, hm⟩ | ⟨rfl, hm⟩
          · rw [if_neg (by decide), if_pos (by unfold mt; rw [decide_eq_true_eq]; exact ⟨c, hm⟩)]
          · rw [if_pos rfl, if_neg (by unfold mt; rw [decide_eq_true_eq]; exact fun x => hm x.2)]
            exact nxt
        · rw [if_neg (fun e => c ((nI_eq (by omega) (by omega)).mp e).symm), if_neg (by unfold mt; rw [decide_eq_true_eq]; exact fun x => c x.1)]
          exact nxt
      rw [F_X2_wordOf_b9, show sLen 0 = nI 93 from rfl, if_neg (nI_nlt (by omega) (by omega))]
      by_cases c : k < 17
      · obtain ⟨d1, d2, d3⟩ := b3 c
        rw [if_neg (fun e => by have := (nI_eq (by omega) (by omega)).mp e; omega), show lenS.getD 0 0 = 93 from rfl, grd_t (inBe (by omega) (by decide)), if_pos d2]
        exact c41
      · rw [if_pos (by rw [b4 (by omega)])]
        exact c41
  exact key 18 2000 0 (by omega) (by omega)
/-! a sign -/
theorem c_addSign {T : Tp} {D : Dt} {p : Nat} (hT : okT T) (h : TCr D T) (hp : p < tpL T) : F_X2_addSign (nI p) D = vbd (F_X2_add (nI (if dbl T p = true then (if sgK (tpB T p) = 12 then 15 else 16) else sgK (tpB T p))) (nI p) 0 D) (fun D' => some (nI (if dbl T p = true then p + 2 else p + 1), D')) := by
  have hL := hT.1
  have hb := hT.2 p
  have hk := sgK_b (tpB T p)
  have hc : ((nI (tpB T p)).toUInt32 % 65536).toInt32 = nI (tpB T p) := by
    have : ∀ b, b < 256 → ((nI b).toUInt32 % 65536).toInt32 = nI b := by decide +kernel
    exact this _ hb
  have e2 : (2 : Int32) = nI 2 := rfl
  have b53 : ∀ s0 : Bool, (s0 = true ↔ (p + 1 < tpL T ∧ tpB T (p + 1) = 61)) → F_X2_addSign_b53 (nI p) (nI p) (nI (sgK (tpB T p))) (if s0 = true then 1 else 0) D = vbd (F_X2_add (nI (if dbl T p = true then (if sgK (tpB T p) = 12 then 15 else 16) else sgK (tpB T p))) (nI p) 0 D) (fun D' => some (nI (if dbl T p = true then p + 2 else p + 1), D')) := by
    intro s0 hs
    have hd : dbl T p = true ↔ (s0 = true ∧ (sgK (tpB T p) = 12 ∨ sgK (tpB T p) = 14)) := by
      unfold dbl
      rw [decide_eq_true_eq, hs]
      exact ⟨fun x => ⟨⟨x.1, x.2.1⟩, x.2.2⟩, fun x => ⟨x.1.1, x.1.2, x.2⟩⟩
    simp only [F_X2_addSign_b53, F_X2_addSign_b78, F_X2_addSign_b101, e2, nI_add, nI_1]
    have q12 : nI (sgK (tpB T p)) = (12 : Int32) ↔ sgK (tpB T p) = 12 := nI_eq (b := 12) (by omega) (by decide)
    have q14 : nI (sgK (tpB T p)) = (14 : Int32) ↔ sgK (tpB T p) = 14 := nI_eq (b := 14) (by omega) (by decide)
    by_cases c1 : s0 = true
    · rw [i1t c1]
      by_cases c2 : sgK (tpB T p) = 12
      · have hdt := hd.mpr ⟨c1, Or.inl c2⟩
        rw [if_pos (q12.mpr c2), if_pos hdt, if_pos hdt, if_pos c2]
        rfl
      · rw [if_neg (fun e => c2 (q12.mp e)), i1t c1]
        by_cases c3 : sgK (tpB T p) = 14
        · have hdt := hd.mpr ⟨c1, Or.inr c3⟩
          rw [if_pos (q14.mpr c3), if_pos hdt, if_pos hdt, if_neg c2]
          rfl
        · have hdt : ¬ dbl T p = true := fun e => (hd.mp e).2.elim c2 c3
          rw [if_neg (fun e => c3 (q14.mp e)), if_neg hdt, if_neg hdt]
    · have hdt : ¬ dbl T p = true := fun e => c1 (hd.mp e).1
      rw [i1f c1, i1f c1, if_neg hdt, if_neg hdt]
  have b24 : F_X2_addSign_b24 (nI p) (nI p) (nI (sgK (tpB T p))) D = vbd (F_X2_add (nI (if dbl T p = true then (if sgK (tpB T p) = 12 then 15 else 16) else sgK (tpB T p))) (nI p) 0 D) (fun D' => some (nI (if dbl T p = true then p + 2 else p + 1), D')) := by
    rw [F_X2_addSign_b24, h.1, nI_1]
    by_cases c1 : tpL T ≤ p + 1
    · rw [if_pos (nI_le c1 (by omega)), F_X2_addSign_b52]
      exact b53 false ⟨fun x => (by cases x), fun x => by omega⟩
    · rw [if_neg (nI_ge (by omega) (by omega)), grd_t (inBe (by omega) (by decide)), nIc (by omega), h.2 (p + 1) (by omega)]
      have hb1 := hT.2 (p + 1)
      by_cases c2 : tpB T (p + 1) = 61
      · rw [if_pos (by rw [c2]; rfl)]
        exact b53 true ⟨fun _ => ⟨by omega, c2⟩, fun _ => rfl⟩
      · rw [if_neg (show ¬ nI (tpB T (p + 1)) = (61 : Int32) from fun e => c2 ((nI_eq (b := 61) (by omega) (by decide)).mp e)), F_X2_addSign_b52]
        exact b53 false ⟨fun x => (by cases x), fun x => absurd x.2 c2⟩
  have hs := sgK_e (tpB T p) hb
  rw [F_X2_addSign, grd_t (inBe (by omega) (by decide)), nIc (by omega), h.2 p hp, hc, grd_t (inBe hb (by decide)), bnd_e]
  by_cases c : 0 ≤ sIdx 1 (nI (tpB T p))
  · rw [if_pos c] at hs ⊢
    rw [hs]
    exact b24
  · rw [if_neg c] at hs ⊢
    rw [hs]
    exact b24
/-- the i-th thing's place -/
def itT (T : Tp) : Nat → Nat
  | 0 => sbk T 0
  | i + 1 => nq T (itT T i)
theorem itT_sb {T : Tp} : ∀ i, sbk T (itT T i) = itT T i
  | 0 => spE_idem
  | i + 1 => nq_sb
theorem itT_le {T : Tp} : ∀ i, itT T i ≤ tpL T
  | 0 => sbk_le (Nat.zero_le _)
  | i + 1 => by
    rw [itT]
    by_cases c : itT T i < tpL T
    · exact (nq_gt c).2
    · have : itT T i = tpL T := by have := itT_le (T := T) i; omega
      unfold nq
      have e : nx T (itT T i) = itT T i := by unfold nx; rw [if_pos (by omega)]
      rw [e]
      exact sbk_le (by omega)
def Tk (D : Dt) (T : Tp) (i : Nat) : Prop := D.1 (2, 0, 3, 0) i = nI (kd T (itT T i)) ∧ D.1 (2, 0, 4, 0) i = nI (itT T i) ∧ (kd T (itT T i) = 1 → D.1 (2, 0, 5, 0) i = nI (nm T (itT T i)))
/-- all is split: N things, then the end -/
def Tok (D : Dt) (T : Tp) (N : Nat) : Prop := N ≤ 400 ∧ D.1 (2, 0, 0, 0) 5 = nI (N + 1) ∧ (∀ i, i ≤ N → Tk D T i) ∧ (∀ i, i < N → itT T i < tpL T) ∧ itT T N = tpL T
theorem c_splitLoop {T : Tp} {kk : Dt → Option Dt} (hT : okT T) : ∀ m fu p l n D, p + m = tpL T → m < fu → l ≤ p → n ≤ p → TCr D T → D.1 (2, 0, 0, 0) 5 = nI n → (∀ i, i < n → Tk D T i ∧ itT T i < tpL T) → itT T n = sbk T p → ∃ D' n', F_X2_split_b19 kk fu (nI p) (nI l) D = kk D' ∧ n' ≤ tpL T ∧ TCr D' T ∧ D'.1 (2, 0, 0, 0) 5 = nI n' ∧ (∀ i, i < n' → Tk D' T i ∧ itT T i < tpL T) ∧ itT T n' = tpL T ∧ Sm spS D D' ∧ (∀ k, 6 ≤ k → D'.1 (2, 0, 0, 0) k = D.1 (2, 0, 0, 0) k) := by
  have hL := hT.1
  intro m
  induction m using Nat.strongRecOn with
  | ind m ih =>
    intro fu p l n D hp hf hl hn h h5 ht hit
    obtain ⟨fu, rfl⟩ : ∃ g, fu = g + 1 := ⟨fu - 1, by omega⟩
    by_cases c : p < tpL T
    · rw [F_X2_split_b19, if_neg (show ¬ (400 : Int32) ≤ nI l from nI_ge (b := 400) (by omega) (by decide)), h.1, if_neg (nI_ge c (by omega)), grd_t (inBe (by omega) (by decide)), nIc (by omega), h.2 p c, bnd_e, bnd_e, c_isDg (hT.2 p), cbd_s, nI_1]
      -- a thing of kind a, number v, up to e
      have one : ∀ (a v : Int32) (e : Nat), tpB T p ≠ 32 → a = nI (kd T p) → (kd T p = 1 → v = nI (nm T p)) → e = nx T p → ∃ D1, F_X2_add a (nI p) v D = some D1 ∧ ∃ D' n', F_X2_split_b19 kk fu (nI e) (nI (l + 1)) D1 = kk D' ∧ n' ≤ tpL T ∧ TCr D' T ∧ D'.1 (2, 0, 0, 0) 5 = nI n' ∧ (∀ i, i < n' → Tk D' T i ∧ itT T i < tpL T) ∧ itT T n' = tpL T ∧ Sm spS D D' ∧ (∀ k, 6 ≤ k → D'.1 (2, 0, 0, 0) k = D.1 (2, 0, 0, 0) k) := by
        intro a v e hnb ha hv he
        obtain ⟨D1, e1, f5, ⟨g3, g4, g5⟩, fo, f6, m1⟩ := c_tadd (D := D) (a := a) (b := nI p) (v := v) (show n ≤ 400 by omega) h5
        have hsb : sbk T p = p := by
          unfold sbk
          rw [spE_s c, if_neg (by simpa using hnb)]
        have hitp : itT T n = p := by rw [hit, hsb]
        obtain ⟨x1, x2⟩ := nx_gt c
        refine ⟨D1, e1, ?_⟩
        obtain ⟨D', n', e', r1, r2, r3, r4, r5, r6, r7⟩ := ih (tpL T - e) (by omega) fu e (l + 1) (n + 1) D1 (by omega) (by omega) (by omega) (by omega) (h.sm m1) f5 (fun i hi => by
          by_cases ci : i = n
          · rw [ci]
            refine ⟨⟨?_, ?_, fun hk => ?_⟩, by rw [hitp]; exact c⟩
            · rw [g3, ha, hitp]
            · rw [g4, hitp]
            · rw [hitp] at hk
              rw [g5, hitp, hv hk]
          · obtain ⟨⟨t1, t2, t3⟩, t4⟩ := ht i (by omega)
            obtain ⟨o1, o2, o3⟩ := fo i ci
            exact ⟨⟨by rw [o1]; exact t1, by rw [o2]; exact t2, fun hk => by rw [o3]; exact t3 hk⟩, t4⟩) (by rw [itT, hitp, he]; rfl)
        exact ⟨D', n', e', r1, r2, r3, r4, r5, m1.trans r6, fun k hk => by rw [r7 k hk, f6 k hk]⟩
      by_cases cd : isDg (tpB T p) = true
      · have hd := cd
        unfold isDg at hd
        rw [decide_eq_true_eq] at hd
        rw [i1t cd, show F_X2_behindDigits (nI p) D = _ from c_behD hT h (tpL T - p) 2000 p (by omega) (by omega), cbd_s, c_addNum hT h c]
        simp only [F_X2_split_b113, bnd_e, nI_1]
        have hnx : eDg T p = nx T p := by unfold nx; rw [if_neg (by omega), if_pos cd]
        by_cases c5 : eDg T p - p ≤ 5
        · have hkd : kd T p = 1 := by unfold kd; rw [if_neg (by omega), if_pos cd, if_pos c5]
          obtain ⟨D1, e1, rest⟩ := one 1 (nI (nm T p)) (eDg T p) (by omega) (by rw [hkd]; rfl) (fun _ => rfl) hnx
          rw [if_pos c5, e1, vbd_s]
          exact rest
        · have hkd : kd T p = 2 := by unfold kd; rw [if_neg (by omega), if_pos cd, if_neg c5]
          obtain ⟨D1, e1, rest⟩ := one 2 0 (eDg T p) (by omega) (by rw [hkd]; rfl) (fun hk => by omega) hnx
          rw [if_neg c5, e1, vbd_s]
          exact rest
      · rw [i1f cd, c_isLr (hT.2 p), cbd_s]
        by_cases cl : isLr (tpB T p) = true
        · have hl' := cl
          unfold isLr at hl'
          rw [decide_eq_true_eq] at hl'
          rw [i1t cl, show F_X2_behindLetters (nI p) D = _ from c_behL hT h (tpL T - p) 2000 p (by omega) (by omega), cbd_s, c_wordOf hT h c, cbd_s]
          simp only [F_X2_split_b113, bnd_e, nI_1]
          have hnx : eLr T p = nx T p := by unfold nx; rw [if_neg (by omega), if_neg cd, if_pos cl]
          have hkd : kd T p = wc T p := by unfold kd; rw [if_neg (by omega), if_neg cd, if_pos cl]
          have hwb := wc_b (T := T) (p := p)
          obtain ⟨D1, e1, rest⟩ := one (nI (wc T p)) 0 (eLr T p) (by omega) (by rw [hkd]) (fun hk => by omega) hnx
          rw [e1, vbd_s]
          exact rest
        · rw [i1f cl]
          by_cases cb : tpB T p = 32
          · rw [if_pos (by rw [cb]; rfl)]
            simp only [F_X2_split_b113, bnd_e, nI_1]
            have hsb : sbk T p = sbk T (p + 1) := by
              unfold sbk
              rw [spE_s c, if_pos (by simpa using cb)]
            exact ih (tpL T - (p + 1)) (by omega) fu (p + 1) (l + 1) n D (by omega) (by omega) (by omega) (by omega) h h5 ht (by rw [hit, hsb])
          · have hb := hT.2 p
            rw [if_neg (show ¬ nI (tpB T p) = (32 : Int32) from fun e => cb ((nI_eq (b := 32) (by omega) (by decide)).mp e)), c_addSign hT h c]
            have hkd : kd T p = (if dbl T p = true then (if sgK (tpB T p) = 12 then 15 else 16) else sgK (tpB T p)) := by unfold kd; rw [if_neg (by omega), if_neg cd, if_neg cl]
            have hnx : (if dbl T p = true then p + 2 else p + 1) = nx T p := by unfold nx; rw [if_neg (show ¬ tpL T ≤ p by omega), if_neg cd, if_neg cl]
            have hk1 : kd T p ≠ 1 := by
              rw [hkd]
              have := sgK_b (tpB T p)
              split
              · split <;> omega
              · omega
            obtain ⟨D1, e1, rest⟩ := one (nI (kd T p)) 0 (if dbl T p = true then p + 2 else p + 1) cb rfl (fun hk => absurd hk hk1) hnx
            rw [← hkd, e1, vbd_s, cbd_s]
            simp only [F_X2_split_b113, bnd_e, nI_1]
            exact rest
    · have hpL : p = tpL T := by omega
      have hend : itT T n = tpL T := by rw [hit, hpL]; exact spE_o (Nat.le_refl _)
      refine ⟨D, n, ?_, by omega, h, h5, ht, hend, Sm.refl, fun _ _ => rfl⟩
      rw [F_X2_split_b19, h.1, if_pos (nI_le (by omega) (by omega)), ite_self]
theorem c_split {T : Tp} {D : Dt} (hT : okT T) (h : TCr D T) : ∃ D' N, F_X2_split D = some D' ∧ Tok D' T N ∧ D'.1 (2, 0, 0, 0) 6 = 0 ∧ D'.1 (2, 0, 0, 0) 7 = 0 ∧ Sm spS D D' := by
  have hL := hT.1
  rw [F_X2_split, bnd_e, bnd_e, bnd_e]
  have m0 : Sm spS D (setI (setI (setI D (2, 0, 0, 0) 5 0) (2, 0, 0, 0) 6 0) (2, 0, 0, 0) 7 0) := ((Sm.sI (by simp [spS])).trans (Sm.sI (by simp [spS]))).trans (Sm.sI (by simp [spS]))
  obtain ⟨D1, n, e1, r1, r2, r3, r4, r5, r6, r7⟩ := c_splitLoop (kk := (fun D47 => (vbd (F_X2_add (0 : Int32) (D47.1 (2, 0, 0, 0) 1) (0 : Int32) D47) (fun D49 => (some D49))))) hT (tpL T) 2000 0 0 0 (setI (setI (setI D (2, 0, 0, 0) 5 0) (2, 0, 0, 0) 6 0) (2, 0, 0, 0) 7 0) (by omega) (by omega) (by omega) (by omega) (h.sm m0) (by simp [gI]; rfl) (fun i hi => absurd hi (by omega)) rfl
  rw [show F_X2_split_b19 _ 2000 0 0 _ = _ from e1, r2.1]
  obtain ⟨D2, e2, f5, ⟨g3, g4, g5⟩, fo, f6, m2⟩ := c_tadd (D := D1) (a := 0) (b := nI (tpL T)) (v := 0) (show n ≤ 400 by omega) r3
  rw [e2, vbd_s]
  have hk0 : kd T (itT T n) = 0 := kd_0.mpr (by omega)
  refine ⟨D2, n, rfl, ⟨by omega, f5, fun i hi => ?_, fun i hi => (r4 i hi).2, r5⟩, ?_, ?_, (m0.trans r6).trans m2⟩
  · by_cases ci : i = n
    · rw [ci]
      exact ⟨by rw [g3, hk0]; rfl, by rw [g4, r5], fun hk => by omega⟩
    · obtain ⟨⟨t1, t2, t3⟩, t4⟩ := r4 i (by omega)
      obtain ⟨o1, o2, o3⟩ := fo i ci
      exact ⟨by rw [o1]; exact t1, by rw [o2]; exact t2, fun hk => by rw [o3]; exact t3 hk⟩
  · rw [f6 6 (by decide), r7 6 (by decide)]
    simp [gI]
  · rw [f6 7 (by decide), r7 7 (by decide)]
    simp [gI]
