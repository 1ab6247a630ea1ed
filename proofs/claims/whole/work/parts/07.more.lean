/-! ===== the words in which a method's own function is written ===== -/
def grd {α : Type} (c : Prop) [Decidable c] (k : Option α) : Option α := if c then k else none
def bnd {α β : Type} (e : α) (k : α → β) : β := k e
def cbd {α β : Type} (o : Option (α × Dt)) (k : α → Dt → Option β) : Option β := match o with
  | some (a, D) => k a D
  | none => none
def vbd {β : Type} (o : Option Dt) (k : Dt → Option β) : Option β := match o with
  | some D => k D
  | none => none
def obd {β : Type} (o : Option Nat) (k : Nat → Option β) : Option β := match o with
  | some n => k n
  | none => none
theorem grd_x {α : Type} {c : Prop} [Decidable c] {k : Option α} {r : α} (h : grd c k = some r) : c ∧ k = some r := by
  unfold grd at h
  by_cases hc : c
  · rw [if_pos hc] at h; exact ⟨hc, h⟩
  · rw [if_neg hc] at h; cases h
theorem bnd_x {α β : Type} {e : α} {k : α → β} {r : β} (h : bnd e k = r) : ∃ v, v = e ∧ k v = r := ⟨e, rfl, h⟩
theorem cbd_x {α β : Type} {o : Option (α × Dt)} {k : α → Dt → Option β} {r : β} (h : cbd o k = some r) : ∃ a D, o = some (a, D) ∧ k a D = some r := by
  cases o with
  | none => cases h
  | some q => exact ⟨q.1, q.2, rfl, h⟩
theorem vbd_x {β : Type} {o : Option Dt} {k : Dt → Option β} {r : β} (h : vbd o k = some r) : ∃ D, o = some D ∧ k D = some r := by
  cases o with
  | none => cases h
  | some q => exact ⟨q, rfl, h⟩
theorem obd_x {β : Type} {o : Option Nat} {k : Nat → Option β} {r : β} (h : obd o k = some r) : ∃ n, o = some n ∧ k n = some r := by
  cases o with
  | none => cases h
  | some q => exact ⟨q, rfl, h⟩
theorem ite_t {α : Type} {c : Prop} [Decidable c] {a b r : α} (hc : c) (h : (if c then a else b) = r) : a = r := by rw [if_pos hc] at h; exact h
theorem ite_f {α : Type} {c : Prop} [Decidable c] {a b r : α} (hc : ¬ c) (h : (if c then a else b) = r) : b = r := by rw [if_neg hc] at h; exact h
theorem pr_x {α : Type} {v r : α} {D D' : Dt} (h : some (v, D) = some (r, D')) : v = r ∧ D = D' := by
  cases h
  exact ⟨rfl, rfl⟩
theorem grd_t {α : Type} {c : Prop} [Decidable c] {k : Option α} (h : c) : grd c k = k := if_pos h
theorem cbd_s {α β : Type} {a : α} {D : Dt} {k : α → Dt → Option β} : cbd (some (a, D)) k = k a D := rfl
theorem vbd_s {β : Type} {D : Dt} {k : Dt → Option β} : vbd (some D) k = k D := rfl
theorem obd_s {β : Type} {n : Nat} {k : Nat → Option β} : obd (some n) k = k n := rfl
/-! ===== which cells there are ===== -/
theorem V_n {ci n : Nat} (h : V (ci, n, 0, 0) = true) : n < nO ci := by simpa [V] using h
theorem V_o {ci n : Nat} (h : n < nO ci) : V (ci, n, 0, 0) = true := by simpa [V] using h
theorem V_f {ci n : Nat} (k : Nat) (h : V (ci, n, 0, 0) = true) (hk : (arT ci k).isSome = true) : V (ci, n, k + 1, 0) = true := by
  simp only [V, Bool.and_eq_true, decide_eq_true_eq]
  exact ⟨V_n h, hk⟩
theorem V_w {ci n q j len : Nat} (h : V (ci, n, 0, 0) = true) (hk : arT ci q = some (7, len)) (hj : j < len) : V (ci, n, q + 1, j + 1) = true := by
  simp only [V, Bool.and_eq_true, decide_eq_true_eq, hk]
  exact ⟨V_n h, hj⟩
theorem V_95 {w : Nat} (h : V (9, w, 0, 0) = true) : V (5, w, 0, 0) = true := V_o (by have := V_n h; simp only [nO] at this ⊢; omega)
theorem V_96 {w : Nat} (h : V (9, w, 0, 0) = true) : V (6, 21 * w, 0, 0) = true := V_o (by have := V_n h; simp only [nO] at this ⊢; omega)
theorem V_90 {w : Nat} (h : V (9, w, 0, 0) = true) : V (0, w, 0, 0) = true := V_o (by have := V_n h; simp only [nO] at this ⊢; omega)
theorem inB_lt {i : Int32} {n : Nat} (h : inB i n = true) : i.toNatClampNeg < n := Nat.not_le.mp fun q => inB_in h (Or.inr q)
theorem V_rule {i : Int32} (h : inB i 6 = true) : V (3, i.toNatClampNeg, 0, 0) = true := V_o (inB_lt h)
theorem V_img {i : Int32} (h : inB i 4 = true) : V (9, i.toNatClampNeg + 1, 0, 0) = true := V_o (by have := inB_lt h; simp only [nO]; omega)
theorem V_lev {i : Int32} (h : inB i 5 = true) : V (6, 106 + i.toNatClampNeg, 0, 0) = true := V_o (by have := inB_lt h; simp only [nO]; omega)
/-- a row that is handed over -/
def lenOf (la : LA) : Nat := match sh la with
  | .inr (_, n) => n
  | _ => 0
def isI (la : LA) : Prop := V la = true ∧ sh la = .inr (0, lenOf la)
def isL (la : LA) : Prop := V la = true ∧ sh la = .inr (1, lenOf la)
/-! ===== more rules ===== -/
section MR
variable {X : Ctx} {cc : ByteArray} {own : String} {G : Gt} {l0 : Launch} {A0 : Nat → Prop} {lv n0 : Nat} {rt : Option FieldType} {r : Option Value} {D' : Dt} {Φ : Heap → Prop} {pc : Nat} {L : List (Nat × Value)} {st : List Value} {D : Dt} {la : LA}
theorem j_rep {D1 D2 : Dt} (h : D1 = D2) (k : J X (Rep G D1) pc L st) : J X (Rep G D2) pc L st := h ▸ k
theorem j_st {st' : List Value} (h : st = st') (k : J X Φ pc L st') : J X Φ pc L st := h ▸ k
theorem j_aloadO_n (C : Cx X cc own G l0 A0 lv n0 rt r D') {kk : Fin 4} {i : Nat} {o : Option Nat} (q : Nat) (hd : decode cc pc = .ok (.aload_n kk, 1)) (hi : (kk : Nat) = i) (hl : L[q]? = some (i, va_rf o)) (k : J X Φ (pc + 1) L (va_rf o :: st)) : J X Φ pc L st := by
  obtain ⟨p, l, e, R, s, m, args, below, meth, c, A, nL, Q, cs, sl⟩ := X
  obtain ⟨hx, hb, hml, hown, hts, hlk, hK, hG, hR, hr, hQ, hl0, hA0, hn0, hSx⟩ := C
  intro H locs ls h1 h2 h3
  cases o with
  | none => exact lv_aload_nN hx hb hd hi (lv_at h3 q hl) (k H locs ls h1 h2 h3)
  | some x => exact lv_aload_n hx hb hd hi (lv_at h3 q hl) (k H locs ls h1 h2 h3)
theorem j_ifnnO (C : Cx X cc own G l0 A0 lv n0 rt r D') {o : Option Nat} {f : Nat → Nat} {off : Int} (tgt : Nat) (hd : decode cc pc = .ok (.ifnonnull off, 3)) (ht : (pc : Int) + off = (tgt : Int)) (kt : ¬ o = none → J X Φ tgt L st) (kf : o = none → J X Φ (pc + 3) L st) : J X Φ pc L (va_rf (o.map f) :: st) := by
  cases o with
  | none => exact j_ifnonnullN C hd (kf rfl)
  | some x => exact j_ifnonnull C tgt hd ht (kt (fun h => by cases h))
theorem j_ldcw (C : Cx X cc own G l0 A0 lv n0 rt r D') {idx : Nat} (v : Int32) (hw : Cond.constant own idx v ∈ tg) (hd : decode cc pc = .ok (.ldc_w idx, 3)) (k : J X Φ (pc + 3) L (.int v :: st)) : J X Φ pc L st := by
  obtain ⟨p, l, e, R, s, m, args, below, meth, c, A, nL, Q, cs, sl⟩ := X
  obtain ⟨hx, hb, hml, hown, hts, hlk, hK, hG, hR, hr, hQ, hl0, hA0, hn0, hSx⟩ := C
  intro H locs ls h1 h2 h3
  exact lv_ldcw hx hb hown (hts _ hw) hd (k H locs ls h1 h2 h3)
theorem j_ldcS (C : Cx X cc own G l0 A0 lv n0 rt r D') {idx : Nat} {tx : String} (i : Nat) (hq : sOw[i]? = some (own, idx, tx)) (hd : decode cc pc = .ok (.ldc idx, 2)) (k : J X Φ (pc + 2) L (.ref (sK G i) :: st)) : J X Φ pc L st := by
  obtain ⟨p, l, e, R, s, m, args, below, meth, c, A, nL, Q, cs, sl⟩ := X
  obtain ⟨hx, hb, hml, hown, hts, hlk, hK, hG, hR, hr, hQ, hl0, hA0, hn0, hSx⟩ := C
  intro H locs ls h1 h2 h3
  exact va_ldcS hx hb hown (hSx.2.1 i _ hq) hd (k H locs ls h1 h2 h3)
theorem j_ldcSw (C : Cx X cc own G l0 A0 lv n0 rt r D') {idx : Nat} {tx : String} (i : Nat) (hq : sOw[i]? = some (own, idx, tx)) (hd : decode cc pc = .ok (.ldc_w idx, 3)) (k : J X Φ (pc + 3) L (.ref (sK G i) :: st)) : J X Φ pc L st := by
  obtain ⟨p, l, e, R, s, m, args, below, meth, c, A, nL, Q, cs, sl⟩ := X
  obtain ⟨hx, hb, hml, hown, hts, hlk, hK, hG, hR, hr, hQ, hl0, hA0, hn0, hSx⟩ := C
  intro H locs ls h1 h2 h3 T hT Xs
  obtain ⟨t, a1, b1⟩ := k H locs ls h1 h2 h3 T hT Xs
  exact ⟨t, Jvm.Stand.ldcStringW Xs hx hown (text := tx) (a := sK G i) (hSx.2.1 i _ hq).1 (hSx.2.1 i _ hq).2 (g := F0 m pc ls st) rfl (by rw [hb]; exact hd) t a1, b1⟩
def cpyI (D : Dt) (src dst : LA) (sp dp n : Nat) : Dt := (fun l j => if l = dst then va_cpy (D.1 src) (D.1 dst) sp dp n j else D.1 l j, D.2)
theorem tm_acN : Cond.native arraycopyName ∈ tg := tg_of (by decide +kernel) (by decide +kernel)
theorem tm_acS : Cond.static arraycopyName ∈ tg := tg_of (by decide +kernel) (by decide +kernel)
theorem tm_acI : Cond.initialized "java/lang/System" ∈ tg := tg_of (by decide +kernel) (by decide +kernel)
theorem j_copy (C : Cx X cc own G l0 A0 lv n0 rt r D') {idx n1 n2 : Nat} {lb : LA} {sp dp n : Int32} (hw : Cond.methodLink own idx arraycopyName ∈ tg) (hlv : 1 ≤ lv) (hst : (st.map fun v => v.category).sum ≤ 8) (hd : decode cc pc = .ok (.invokestatic idx, 3)) (hV : V la = true) (hs : sh la = .inr (0, n1)) (hV2 : V lb = true) (hs2 : sh lb = .inr (0, n2))
    (hc : ¬ sp < 0 ∧ ¬ dp < 0 ∧ ¬ n < 0 ∧ sp.toNatClampNeg + n.toNatClampNeg ≤ n1 ∧ dp.toNatClampNeg + n.toNatClampNeg ≤ n2)
    (k : J X (Rep G (cpyI D la lb sp.toNatClampNeg dp.toNatClampNeg n.toNatClampNeg)) (pc + 3) L st) : J X (Rep G D) pc L (.int n :: .int dp :: .ref (ad G lb) :: .int sp :: .ref (ad G la) :: st) := by
  obtain ⟨p, l, e, R, s, m, args, below, meth, c, A, nL, Q, cs, sl⟩ := X
  obtain ⟨hx, hb, hml, hown, hts, hlk, hK, hG, hR, hr, hQ, hl0, hA0, hn0, hSx⟩ := C
  intro H locs ls h1 h2 h3
  obtain ⟨q, hq, hw1⟩ := ws_at (D := D) hG hV
  obtain ⟨q2, hq2, hw2⟩ := ws_at (D := D) hG hV2
  rw [cell_arr hs] at hw1
  rw [cell_arr hs2] at hw2
  obtain ⟨hR1, hR2, hR3, hR4⟩ := hR
  have hset : (wsG G D).set q2 (ad G lb, .inl (G.2.2.1 0, n2, .inl (va_cpy (D.1 la) (D.1 lb) sp.toNatClampNeg dp.toNatClampNeg n.toNatClampNeg))) = wsG G (cpyI D la lb sp.toNatClampNeg dp.toNatClampNeg n.toNatClampNeg) := by
    refine ws_set hG hq2 ?_ (fun lc h => cell_eq (by funext j; simp [cpyI, h]) rfl rfl)
    rw [cell_arr hs2]
    unfold arC
    have : (cpyI D la lb sp.toNatClampNeg dp.toNatClampNeg n.toNatClampNeg).1 lb = va_cpy (D.1 la) (D.1 lb) sp.toNatClampNeg dp.toNatClampNeg n.toNatClampNeg := by funext j; simp [cpyI]
    rw [this]
    rfl
  exact va_copyi hx hb (hml.trans h3.1.symm) hown (hts _ hw) (hts _ tm_acN) (hts _ tm_acS) (hts _ tm_acI) hK.1 h1 (ws_D hG) h2 q q2 0 0 (ty := .int) hw1 hw2 rfl rfl rfl hc.1 hc.2.1 hc.2.2.1 hc.2.2.2.1 hc.2.2.2.2 (fun _ _ => rfl) (by omega) (by simp [nativeFrameWords]; omega) hd (fun H1 locs1 hP hD hS => k H1 locs1 ls (by rw [hset] at hP; exact hP) hS h3)
end MR
theorem ne_toInt {x k : Int32} (h : ¬ x = k) : x.toInt ≠ k.toInt := fun e => h (Int32.toInt_inj.mp e)
section KR
variable {X : Ctx} {cc : ByteArray} {own : String} {G : Gt} {l0 : Launch} {A0 : Nat → Prop} {lv n0 : Nat} {rt : Option FieldType} {r : Option Value} {D' : Dt} {pc : Nat} {L : List (Nat × Value)} {st : List Value} {D : Dt} {la : LA}
theorem j_ialdK (C : Cx X cc own G l0 A0 lv n0 rt r D') (n kn : Nat) {i : Int32} (hd : decode cc pc = .ok (.iaload, 1)) (hV : V la = true) (hs : sh la = .inr (0, n)) (hin : inB i n = true) (hk : i.toNatClampNeg = kn) (kk : J X (Rep G D) (pc + 1) L (.int (D.1 la kn) :: st)) : J X (Rep G D) pc L (.int i :: .ref (ad G la) :: st) := by
  subst hk
  exact j_iald C n hd hV hs hin kk
theorem j_zaldK (C : Cx X cc own G l0 A0 lv n0 rt r D') (n kn : Nat) {i : Int32} (hd : decode cc pc = .ok (.baload, 1)) (hV : V la = true) (hs : sh la = .inr (2, n)) (hin : inB i n = true) (hk : i.toNatClampNeg = kn) (kk : J X (Rep G D) (pc + 1) L (.int (D.1 la kn) :: st)) : J X (Rep G D) pc L (.int i :: .ref (ad G la) :: st) := by
  subst hk
  exact j_zald C n hd hV hs hin kk
theorem j_baldK (C : Cx X cc own G l0 A0 lv n0 rt r D') (n kn : Nat) {i : Int32} (hd : decode cc pc = .ok (.baload, 1)) (hV : V la = true) (hs : sh la = .inr (3, n)) (hin : inB i n = true) (hk : i.toNatClampNeg = kn) (kk : J X (Rep G D) (pc + 1) L (.int (D.1 la kn) :: st)) : J X (Rep G D) pc L (.int i :: .ref (ad G la) :: st) := by
  subst hk
  exact j_bald C n hd hV hs hin kk
theorem j_laldK (C : Cx X cc own G l0 A0 lv n0 rt r D') (n kn : Nat) {i : Int32} (hd : decode cc pc = .ok (.laload, 1)) (hV : V la = true) (hs : sh la = .inr (1, n)) (hin : inB i n = true) (hk : i.toNatClampNeg = kn) (kk : J X (Rep G D) (pc + 1) L (.long (D.2.1 la kn) :: st)) : J X (Rep G D) pc L (.int i :: .ref (ad G la) :: st) := by
  subst hk
  exact j_lald C n hd hV hs hin kk
theorem j_iastK (C : Cx X cc own G l0 A0 lv n0 rt r D') (n kn : Nat) {i : Int32} {x : Int32} (hd : decode cc pc = .ok (.iastore, 1)) (hV : V la = true) (hs : sh la = .inr (0, n)) (hin : inB i n = true) (hk : i.toNatClampNeg = kn) (kk : J X (Rep G (setI D la kn x)) (pc + 1) L st) : J X (Rep G D) pc L (.int x :: .int i :: .ref (ad G la) :: st) := by
  subst hk
  exact j_iast C n hd hV hs hin kk
theorem j_zastK (C : Cx X cc own G l0 A0 lv n0 rt r D') (n kn : Nat) {i : Int32} {x : Int32} (hd : decode cc pc = .ok (.bastore, 1)) (hV : V la = true) (hs : sh la = .inr (2, n)) (hin : inB i n = true) (hk : i.toNatClampNeg = kn) (kk : J X (Rep G (setI D la kn (vp_nar .boolean x))) (pc + 1) L st) : J X (Rep G D) pc L (.int x :: .int i :: .ref (ad G la) :: st) := by
  subst hk
  exact j_zast C n hd hV hs hin kk
theorem j_bastK (C : Cx X cc own G l0 A0 lv n0 rt r D') (n kn : Nat) {i : Int32} {x : Int32} (hd : decode cc pc = .ok (.bastore, 1)) (hV : V la = true) (hs : sh la = .inr (3, n)) (hin : inB i n = true) (hk : i.toNatClampNeg = kn) (kk : J X (Rep G (setI D la kn (vp_nar .byte x))) (pc + 1) L st) : J X (Rep G D) pc L (.int x :: .int i :: .ref (ad G la) :: st) := by
  subst hk
  exact j_bast C n hd hV hs hin kk
theorem j_lastK (C : Cx X cc own G l0 A0 lv n0 rt r D') (n kn : Nat) {i : Int32} {x : Int64} (hd : decode cc pc = .ok (.lastore, 1)) (hV : V la = true) (hs : sh la = .inr (1, n)) (hin : inB i n = true) (hk : i.toNatClampNeg = kn) (kk : J X (Rep G (setL D la kn x)) (pc + 1) L st) : J X (Rep G D) pc L (.long x :: .int i :: .ref (ad G la) :: st) := by
  subst hk
  exact j_last C n hd hV hs hin kk
theorem j_aaldDK (C : Cx X cc own G l0 A0 lv n0 rt r D') (n kn : Nat) {i : Int32} (hd : decode cc pc = .ok (.aaload, 1)) (hV : V la = true) (hs : sh la = .inr (4, n)) (h6 : ∀ k, dk la k = 6) (hin : inB i n = true) (hk : i.toNatClampNeg = kn) (kk : J X (Rep G D) (pc + 1) L (va_rf ((D.2.2 la kn).map (fun n => ad G (6, n, 0, 0))) :: st)) : J X (Rep G D) pc L (.int i :: .ref (ad G la) :: st) := by
  subst hk
  exact j_aaldD C n hd hV hs h6 hin kk
theorem j_aastK (C : Cx X cc own G l0 A0 lv n0 rt r D') (n kn : Nat) {i : Int32} {x : Nat} (hd : decode cc pc = .ok (.aastore, 1)) (hV : V la = true) (hs : sh la = .inr (4, n)) (h6 : ∀ k, dk la k = 6) (hin : inB i n = true) (hx6 : V (6, x, 0, 0) = true) (hk : i.toNatClampNeg = kn) (kk : J X (Rep G (setR D la kn (some x))) (pc + 1) L st) : J X (Rep G D) pc L (.ref (ad G (6, x, 0, 0)) :: .int i :: .ref (ad G la) :: st) := by
  subst hk
  exact j_aast C n hd hV hs h6 hin hx6 kk
/-! ===== the JDK's Strings: rows to be closed ===== -/
def sLen (i : Nat) : Int32 := Int32.ofNat (lenS.getD i 0)
def sChr (i : Nat) (k : Int32) : Int32 := (bytS.getD i []).getD k.toNatClampNeg 0
def sIxF (c : Int32) : List Int32 → Nat → Int32
  | [], _ => -1
  | b :: l, k => if b = c then nI k else sIxF c l (k + 1)
def sIdx (i : Nat) (c : Int32) : Int32 := sIxF c.toInt8.toInt32 (bytS.getD i []) 0
end KR
