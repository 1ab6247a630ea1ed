/-! ===== the law: all calls ===== -/
def Inv (D : Dt) : Prop := ∃ A, okA A ∧ RC D A ∧ RM D A
theorem call_ok {fc fm : Dt → Option (Int32 × Dt)} {D : Dt} {k K : Dt → Option Dt} (hc : Cal fc fm) (hI : Inv D) (hK : ∀ E, Inv E → ∃ F, K E = k F ∧ Inv F) : ∃ F, cbd (fc D) (fun r D1 => cbd (fm D1) (fun r' D2 => if r = r' then K D2 else none)) = k F ∧ Inv F := by
  obtain ⟨A, h1, h2, h3⟩ := hI
  obtain ⟨r, D1, D2, A', e1, e2, i1, i2, i3⟩ := hc D A h1 h2 h3
  rw [e1, cbd_s, e2, cbd_s, if_pos rfl]
  exact hK D2 ⟨A', i1, i2, i3⟩
theorem law_loop {xs : Nat → Int32} {Ln : Nat} {k : Dt → Option Dt} (hLn : Ln < 2147483648) : ∀ m fu p D, Ln < p + 6 * (m + 1) → m < fu → p < 2147483648 → Inv D → ∃ F, F_L_law_b18 xs Ln k fu (nI p) D = k F ∧ Inv F := by
  intro m
  have cmp : ∀ p, p < 2147483648 → ((Int32.ofNat Ln - (6 : Int32) < nI p) ↔ Ln < p + 6) := fun p hp => by
    have e1 : (Int32.ofNat Ln - (6 : Int32)).toInt = (Ln : Int) - 6 := by
      have e0 : (Int32.ofNat Ln).toInt = (Ln : Int) := nI_toInt hLn
      rw [Int32.toInt_sub, e0, show (6 : Int32).toInt = 6 from rfl]
      exact Int.bmod_eq_of_le (by omega) (by omega)
    rw [Int32.lt_iff_toInt_lt, e1, nI_toInt hp]
    omega
  induction m with
  | zero =>
    intro fu p D h hf hp hI
    obtain ⟨fu, rfl⟩ : ∃ g, fu = g + 1 := ⟨fu - 1, by omega⟩
    rw [F_L_law_b18, if_pos ((cmp p hp).mpr (by omega))]
    exact ⟨D, rfl, hI⟩
  | succ m ih =>
    intro fu p D h hf hp hI
    obtain ⟨fu, rfl⟩ : ∃ g, fu = g + 1 := ⟨fu - 1, by omega⟩
    by_cases hs : Ln < p + 6
    · rw [F_L_law_b18, if_pos ((cmp p hp).mpr hs)]
      exact ⟨D, rfl, hI⟩
    · have g : ∀ j, j < 6 → inB (nI p + nI j) Ln = true := fun j hj => by rw [nI_add]; exact inBe (by omega) hLn
      have g1 : inB (nI p + (1 : Int32)) Ln = true := g 1 (by decide)
      have g2 : inB (nI p + (2 : Int32)) Ln = true := g 2 (by decide)
      have g3 : inB (nI p + (3 : Int32)) Ln = true := g 3 (by decide)
      have g4 : inB (nI p + (4 : Int32)) Ln = true := g 4 (by decide)
      have g5 : inB (nI p + (5 : Int32)) Ln = true := g 5 (by decide)
      have g0 : inB (nI p) Ln = true := inBe (by omega) hLn
      have hK : ∀ E, Inv E → ∃ F, F_L_law_b1172 xs Ln (fun l3_17 D18 => (F_L_law_b18 xs Ln k fu l3_17 D18)) (nI p) E = k F ∧ Inv F := fun E hE => by
        rw [F_L_law_b1172, show nI p + (6 : Int32) = nI (p + 6) from nI_add p 6, bnd_e]
        exact ih fu (p + 6) E (by omega) (by omega) (by omega) hE
      rw [F_L_law_b18, if_neg (fun x => hs ((cmp p hp).mp x)), grd_t g0]
      by_cases c0 : (xs (nI p).toNatClampNeg &&& (31 : Int32)) = (0 : Int32)
      · rw [if_pos c0, grd_t g1, grd_t g2, grd_t g3, grd_t g4, grd_t g5]
        exact call_ok (p_feed _ _ _ _ _) hI hK
      rw [if_neg c0]
      by_cases c1 : (xs (nI p).toNatClampNeg &&& (31 : Int32)) = (1 : Int32)
      · rw [if_pos c1, grd_t g1]
        exact call_ok (p_end _) hI hK
      rw [if_neg c1]
      by_cases c2 : (xs (nI p).toNatClampNeg &&& (31 : Int32)) = (2 : Int32)
      · rw [if_pos c2]
        exact call_ok (p_table) hI hK
      rw [if_neg c2]
      by_cases c3 : (xs (nI p).toNatClampNeg &&& (31 : Int32)) = (3 : Int32)
      · rw [if_pos c3]
        exact call_ok (p_rule) hI hK
      rw [if_neg c3]
      by_cases c4 : (xs (nI p).toNatClampNeg &&& (31 : Int32)) = (4 : Int32)
      · rw [if_pos c4, grd_t g1]
        exact call_ok (p_force _) hI hK
      rw [if_neg c4]
      by_cases c5 : (xs (nI p).toNatClampNeg &&& (31 : Int32)) = (5 : Int32)
      · rw [if_pos c5, grd_t g1, grd_t g2]
        exact call_ok (p_land _ _) hI hK
      rw [if_neg c5]
      by_cases c6 : (xs (nI p).toNatClampNeg &&& (31 : Int32)) = (6 : Int32)
      · rw [if_pos c6, grd_t g1, grd_t g2]
        exact call_ok (p_told _ _) hI hK
      rw [if_neg c6]
      by_cases c7 : (xs (nI p).toNatClampNeg &&& (31 : Int32)) = (7 : Int32)
      · rw [if_pos c7]
        exact call_ok (p_week) hI hK
      rw [if_neg c7]
      by_cases c8 : (xs (nI p).toNatClampNeg &&& (31 : Int32)) = (8 : Int32)
      · rw [if_pos c8, grd_t g1, grd_t g2]
        exact call_ok (p_swap _ _) hI hK
      rw [if_neg c8]
      by_cases c9 : (xs (nI p).toNatClampNeg &&& (31 : Int32)) = (9 : Int32)
      · rw [if_pos c9, grd_t g1, grd_t g2, grd_t g3]
        exact call_ok (p_give _ _ _) hI hK
      rw [if_neg c9]
      by_cases c10 : (xs (nI p).toNatClampNeg &&& (31 : Int32)) = (10 : Int32)
      · rw [if_pos c10, grd_t g1, grd_t g2]
        exact call_ok (p_fight _ _) hI hK
      rw [if_neg c10]
      by_cases c11 : (xs (nI p).toNatClampNeg &&& (31 : Int32)) = (11 : Int32)
      · rw [if_pos c11, grd_t g1]
        exact call_ok (p_set _) hI hK
      rw [if_neg c11]
      by_cases c12 : (xs (nI p).toNatClampNeg &&& (31 : Int32)) = (12 : Int32)
      · rw [if_pos c12]
        exact call_ok (p_undo) hI hK
      rw [if_neg c12]
      by_cases c13 : (xs (nI p).toNatClampNeg &&& (31 : Int32)) = (13 : Int32)
      · rw [if_pos c13, grd_t g1, grd_t g2, grd_t g3]
        exact call_ok (p_ahead _ _ _) hI hK
      rw [if_neg c13]
      by_cases c14 : (xs (nI p).toNatClampNeg &&& (31 : Int32)) = (14 : Int32)
      · rw [if_pos c14, grd_t g1]
        exact call_ok (p_bare _) hI hK
      rw [if_neg c14]
      by_cases c15 : (xs (nI p).toNatClampNeg &&& (31 : Int32)) = (15 : Int32)
      · rw [if_pos c15, grd_t g1, grd_t g2, grd_t g3]
        exact call_ok (p_row _ _ _) hI hK
      rw [if_neg c15]
      by_cases c16 : (xs (nI p).toNatClampNeg &&& (31 : Int32)) = (16 : Int32)
      · rw [if_pos c16, grd_t g1, grd_t g2]
        exact call_ok (p_best _ _) hI hK
      rw [if_neg c16]
      by_cases c17 : (xs (nI p).toNatClampNeg &&& (31 : Int32)) = (17 : Int32)
      · rw [if_pos c17]
        exact call_ok (p_quiet) hI hK
      rw [if_neg c17]
      by_cases c18 : (xs (nI p).toNatClampNeg &&& (31 : Int32)) = (18 : Int32)
      · rw [if_pos c18, grd_t g1, grd_t g2, grd_t g3]
        exact call_ok (p_worth _ _ _) hI hK
      rw [if_neg c18]
      by_cases c19 : (xs (nI p).toNatClampNeg &&& (31 : Int32)) = (19 : Int32)
      · rw [if_pos c19, grd_t g1, grd_t g2, grd_t g3]
        exact call_ok (p_need _ _ _) hI hK
      rw [if_neg c19]
      by_cases c20 : (xs (nI p).toNatClampNeg &&& (31 : Int32)) = (20 : Int32)
      · rw [if_pos c20, grd_t g1, grd_t g2, grd_t g3, grd_t g4]
        exact call_ok (p_game _ _ _ _) hI hK
      rw [if_neg c20]
      by_cases c21 : (xs (nI p).toNatClampNeg &&& (31 : Int32)) = (21 : Int32)
      · rw [if_pos c21, grd_t g1, grd_t g2]
        exact call_ok (p_shun _ _) hI hK
      rw [if_neg c21]
      by_cases c22 : (xs (nI p).toNatClampNeg &&& (31 : Int32)) = (22 : Int32)
      · rw [if_pos c22, grd_t g1, grd_t g2]
        exact call_ok (p_mother _ _) hI hK
      rw [if_neg c22]
      by_cases c23 : (xs (nI p).toNatClampNeg &&& (31 : Int32)) = (23 : Int32)
      · rw [if_pos c23, grd_t g1, grd_t g2]
        exact call_ok (p_parts _ _) hI hK
      rw [if_neg c23]
      by_cases c24 : (xs (nI p).toNatClampNeg &&& (31 : Int32)) = (24 : Int32)
      · rw [if_pos c24, grd_t g1, grd_t g2, grd_t g3]
        exact call_ok (p_note _ _ _) hI hK
      rw [if_neg c24]
      by_cases c25 : (xs (nI p).toNatClampNeg &&& (31 : Int32)) = (25 : Int32)
      · rw [if_pos c25, grd_t g1]
        exact call_ok (p_ruled _) hI hK
      rw [if_neg c25]
      by_cases c26 : (xs (nI p).toNatClampNeg &&& (31 : Int32)) = (26 : Int32)
      · rw [if_pos c26, grd_t g1, grd_t g2]
        exact call_ok (p_look _ _) hI hK
      rw [if_neg c26]
      by_cases c27 : (xs (nI p).toNatClampNeg &&& (31 : Int32)) = (27 : Int32)
      · rw [if_pos c27, grd_t g1]
        exact call_ok (p_seed _) hI hK
      rw [if_neg c27]
      by_cases c28 : (xs (nI p).toNatClampNeg &&& (31 : Int32)) = (28 : Int32)
      · rw [if_pos c28, grd_t g1, grd_t g2, grd_t g3, grd_t g4]
        exact call_ok (p_summers _ _ _ _) hI hK
      rw [if_neg c28]
      by_cases c29 : (xs (nI p).toNatClampNeg &&& (31 : Int32)) = (29 : Int32)
      · rw [if_pos c29, grd_t g1]
        exact call_ok (p_count _) hI hK
      rw [if_neg c29]
      by_cases c30 : (xs (nI p).toNatClampNeg &&& (31 : Int32)) = (30 : Int32)
      · rw [if_pos c30, grd_t g1]
        exact call_ok (p_image _) hI hK
      rw [if_neg c30]
      by_cases c31 : (xs (nI p).toNatClampNeg &&& (31 : Int32)) = (31 : Int32)
      · rw [if_pos c31, grd_t g1]
        exact call_ok (p_back _) hI hK
      rw [if_neg c31]
      exact hK D hI
/-! ===== the initial picture ===== -/
def D0I : LA → Nat → Int32
  | (9, _, 0, _), 7 => -1
  | (11, _, 0, _), 28 => 12
  | (11, _, 0, _), 40 => -1
  | (11, _, 2, _), 8 => -1
  | _, _ => 0
def D0R : LA → Nat → Option Nat
  | (0, w, _, _), k => if k < 20 then some (21 * w + 1 + k) else none
  | _, _ => none
def D0 : Dt := (D0I, fun _ _ => 0, D0R)
def W0 : Wo := (h0, (fun _ _ => 0), 0, (fun _ _ _ => 0), 0, (fun _ => 0), (fun _ => 0), (fun _ => 0), -1, 0)
def A0 : Al := (W0, (fun _ => none), 0, (fun _ => (0, (fun _ => 0), (fun _ => 0), (fun _ => 0), (fun _ => 0), (fun _ => 0))), 0, (fun _ => 0))
theorem z_gd {n : Nat} : Gd n (fun _ _ => 0) := ⟨fun _ => ⟨bw0 (by decide), bw0 (by decide), bw0 (by decide), bw0 (by decide)⟩, fun _ _ => ⟨rfl, rfl, rfl, rfl⟩, bw0 (by decide)⟩
theorem ok0 : okA A0 := by
  refine ⟨⟨by decide, bw0 (by decide), fun _ _ => bw0 (by decide), ⟨fun x => (by cases x), fun x => absurd x (show ¬ (0 : Int32) < 0 by decide)⟩, fun _ => rfl, beg_gd h0_ok, ⟨z_gd, 0, by decide, rfl⟩, fun j hj => absurd hj (Nat.not_lt_zero j), fun j hj => absurd hj (Nat.not_lt_zero j), Or.inl rfl, by decide⟩, fun k W _ hW => (by cases hW), by decide, fun r hr => absurd hr (Nat.not_lt_zero r), by decide, fun _ => (show (0 : Nat) < 256 by decide)⟩
theorem pm0 {w : Nat} : Pm D0 w id := ⟨fun j hj => ⟨hj, if_pos hj⟩, fun i j _ _ e => e⟩
theorem rM0 : RM D0 A0 := by
  refine ⟨⟨rfl, rfl, rfl, ?_, rfl, rfl, rfl, by decide, rfl, fun j hj => absurd hj (Nat.not_lt_zero j), fun k v _ _ => rfl, by decide, fun j hj => absurd hj (Nat.not_lt_zero j), fun k _ => ⟨rfl, rfl, rfl⟩⟩, fun k _ => rfl, fun k W _ hW => (by cases hW), rfl, fun r hr => absurd hr (Nat.not_lt_zero r), rfl, fun k hk => absurd hk (Nat.not_lt_zero k), rfl, rfl, rfl, rfl⟩
  funext q k
  show (if q < 5 ∧ k < 5 then lvR D0 (q + 1) k else if q = 5 ∧ k < 3 then lvR D0 0 (k + 3) else 0) = 0
  by_cases c : q < 5 ∧ k < 5
  · rw [if_pos c]
    have h1 : q = 0 ∨ q = 1 ∨ q = 2 ∨ q = 3 ∨ q = 4 := by omega
    rcases h1 with rfl | rfl | rfl | rfl | rfl <;> rfl
  · rw [if_neg c]
    by_cases c2 : q = 5 ∧ k < 3
    · rw [if_pos c2]
      have h2 : k = 0 ∨ k = 1 ∨ k = 2 := by omega
      rcases h2 with rfl | rfl | rfl <;> rfl
    · rw [if_neg c2]
theorem rC0 : RC D0 A0 := by
  refine ⟨⟨?_, ?_, by decide, rfl, ⟨id, pm0, fun j hj => absurd hj (Nat.not_lt_zero j)⟩, by decide, rfl, fun j hj => absurd hj (Nat.not_lt_zero j), rfl, rfl⟩, fun w _ => ⟨id, pm0⟩, fun k _ => rfl, fun k W _ hW => (by cases hW), rfl, fun r hr => absurd hr (Nat.not_lt_zero r), rfl, fun k hk => absurd hk (Nat.not_lt_zero k)⟩
  · exact ⟨rfl, rfl, rfl, rfl, fun k _ => ⟨rfl, rfl, rfl⟩, fun k v _ _ => rfl, fun x => (by cases x)⟩
  · funext q k
    show rdX _ _ _ _ q k = 0
    unfold rdX
    split
    · rfl
    · split
      · rfl
      · rfl
theorem inv0 : Inv D0 := ⟨A0, ok0, rC0, rM0⟩
