/-! the ledger's least methods -/
def mxS (p : Nat → Bool) (f : Nat → Nat) : Nat → Nat
  | 0 => 0
  | n + 1 => if p n then max (mxS p f n) (f n) else mxS p f n
theorem mxS_succ (p : Nat → Bool) (f : Nat → Nat) (n : Nat) : mxS p f (n + 1) = if p n then max (mxS p f n) (f n) else mxS p f n := rfl
theorem mxS_le {p : Nat → Bool} {f : Nat → Nat} {B : Nat} : ∀ {n : Nat}, (∀ l, l < n → f l ≤ B) → mxS p f n ≤ B
  | 0, _ => Nat.zero_le _
  | n + 1, h => by
    have ih := mxS_le (p := p) (fun l hl => h l (Nat.lt_succ_of_lt hl))
    have h1 := h n (Nat.lt_succ_self n)
    unfold mxS
    split <;> omega
theorem mxS_cong {p q : Nat → Bool} {f g : Nat → Nat} : ∀ {n : Nat}, (∀ l, l < n → p l = q l) → (∀ l, l < n → p l = true → f l = g l) → mxS p f n = mxS q g n
  | 0, _, _ => rfl
  | n + 1, h, h2 => by
    unfold mxS
    rw [mxS_cong (fun l hl => h l (by omega)) (fun l hl => h2 l (by omega)), h n (by omega)]
    cases hq : q n
    · rfl
    · rw [if_pos rfl, if_pos rfl, h2 n (by omega) (by rw [h n (by omega), hq])]
theorem mxS_top {p : Nat → Bool} {f : Nat → Nat} {n N : Nat} (hn : n ≤ N) (h : ∀ l, n ≤ l → l < N → p l = false) : mxS p f N = mxS p f n := by
  induction N with
  | zero => rw [show n = 0 by omega]
  | succ N ih =>
    rcases Nat.lt_or_ge n (N + 1) with q | q
    · unfold mxS
      rw [h N (by omega) (by omega), if_neg (by decide), ih (by omega) (fun l a b => h l a (by omega))]
      cases n <;> rfl
    · rw [show n = N + 1 by omega]
theorem jmax_nI {a b : Nat} (ha : a < 2147483648) (hb : b < 2147483648) : jmax (nI a) (nI b) = nI (max a b) := by
  unfold jmax
  by_cases h : a < b
  · rw [if_pos (nI_lt h hb), Nat.max_eq_right (by omega)]
  · rw [if_neg (nI_nlt (by omega) ha), Nat.max_eq_left (by omega)]
theorem jmin_nI {a b : Nat} (ha : a < 2147483648) (hb : b < 2147483648) : jmin (nI a) (nI b) = nI (min a b) := by
  unfold jmin
  by_cases h : b < a
  · rw [if_pos (nI_lt h ha), Nat.min_eq_right (by omega)]
  · rw [if_neg (nI_nlt (by omega) hb), Nat.min_eq_left (by omega)]
theorem ct_top {p : Nat → Bool} {n N : Nat} (hn : n ≤ N) (h : ∀ l, n ≤ l → l < N → p l = false) : fb_ct p N = fb_ct p n := by
  induction N with
  | zero => rw [show n = 0 by omega]
  | succ N ih =>
    rcases Nat.lt_or_ge n (N + 1) with q | q
    · rw [fb_ct_succ, h N (by omega) (by omega), if_neg (by decide), ih (by omega) (fun l a b => h l a (by omega)), Nat.add_zero]
    · rw [show n = N + 1 by omega]
theorem e_bitG {m : jMem} (x : Int32) : f_C_bit x m = some (nI 1 <<< (x &&& nI 31), m) := by
  unfold f_C_bit
  simp only [lits]
def ansS (x y : Int32) : Int32 := if x = nM then (if y = nM then nI 0 else nI 0 ||| (nI 1 <<< (y &&& nI 31))) else if y = nM then nI 0 ||| (nI 1 <<< (x &&& nI 31)) else (nI 0 ||| (nI 1 <<< (x &&& nI 31))) ||| (nI 1 <<< (y &&& nI 31))
theorem e_answered {m : jMem} {l : Nat} (h : l < 30) : f_L_answered (nI l) m = some (ansS (m 34 l) (m 35 l), m) := by
  unfold f_L_answered ansS
  simp (disch := omega) only [lits, negs, nI_add, nn1, leT, leF, ltT, ltF, eqF, mF1, mF2, mF3, mF4, mF5, mF6, mTT, eq_self, Nat.reduceEqDiff, ↓reduceIte, jbd_s, jpu_e, tI0, tI1, jgd_tI, jgd_bb, tfF, ftF, jup_at, jup_oc, jup_ok, ld_34, ld_35, e_bitG]
  by_cases hx : m 34 l = nM
  · rw [if_pos hx, if_pos hx]
    by_cases hy : m 35 l = nM
    · rw [if_pos hy, if_pos hy]
    · rw [if_neg hy, if_neg hy]
  · rw [if_neg hx, if_neg hx]
    by_cases hy : m 35 l = nM
    · rw [if_pos hy, if_pos hy]
    · rw [if_neg hy, if_neg hy]
/-- a letter's number or none -/
def oI (x : Int32) (n : Nat) : Prop := x = nM ∨ ∃ j, j < n ∧ x = nI j
theorem b_ansS {x y : Int32} {n : Nat} (hn : n ≤ 30) (hx : oI x n) (hy : oI y n) {j : Nat} (hj : j < 32) : bt (ansS x y) j = (decide (x = nI j) || decide (y = nI j)) := by
  have h0 : ∀ a : Nat, a < 30 → ¬ nI a = nM := fun a ha e => by
    have := mF1 (a := a) (by omega)
    rw [this] at e
    exact e
  have hm : decide (nM = nI j) = false := decide_eq_false (by rw [mF2 (by omega)]; exact id)
  have hq : ∀ a : Nat, a < 30 → decide (nI a = nI j) = decide (j = a) := fun a ha => by
    by_cases e : j = a
    · rw [e]; simp
    · rw [decide_eq_false e, decide_eq_false]
      rw [eqF (by omega) (by omega) (by omega)]; exact id
  unfold ansS
  rcases hx with rfl | ⟨a, ha, rfl⟩ <;> rcases hy with rfl | ⟨b, hb, rfl⟩
  · rw [if_pos rfl, if_pos rfl, b_n0, hm]; rfl
  · rw [if_pos rfl, if_neg (h0 b (by omega)), b_or, b_n0, hm, sb_e, b_sb (by omega) hj, hq b (by omega)]
  · rw [if_neg (h0 a (by omega)), if_pos rfl, b_or, b_n0, hm, sb_e, b_sb (by omega) hj, hq a (by omega)]; simp
  · rw [if_neg (h0 a (by omega)), if_neg (h0 b (by omega)), b_or, b_or, b_n0, sb_e, sb_e, b_sb (by omega) hj, b_sb (by omega) hj, hq a (by omega), hq b (by omega)]; simp
theorem lp_gsum {v : Int32} {N : Nat} {f : Nat → Nat} {k : Int32 → jMem → Option (Int32 × jMem)} {m : jMem} (hN : m 29 15 = nI N) (h30 : N ≤ 30) (hf : ∀ l, l < N → m 41 l = nI (f l)) (hb : ∀ l, l < N → f l ≤ 1000) : ∀ (d n i : Nat), i + d = N → d < n → lp_L_greatestSum_4 v k n (nI (mxS (bt v) f i)) (nI i) m = k (nI (mxS (bt v) f N)) m := by
  intro d
  induction d with
  | zero =>
    intro n i hid hdn
    obtain ⟨n, rfl⟩ := ex_succ hdn
    rw [show i = N by omega]
    unfold lp_L_greatestSum_4
    simp (disch := omega) only [lits, negs, nI_add, nn1, leT, leF, ltT, ltF, eqF, mF1, mF2, mF3, mF4, mF5, mF6, mTT, eq_self, Nat.reduceEqDiff, ↓reduceIte, jbd_s, jpu_e, tI0, tI1, jgd_tI, jgd_bb, tfF, ftF, jup_at, jup_oc, jup_ok, hN]
  | succ d ih =>
    intro n i hid hdn
    obtain ⟨n, rfl⟩ := ex_succ hdn
    have e := ih n (i + 1) (by omega) (by omega)
    unfold lp_L_greatestSum_4
    have hbi := hb i (by omega)
    have hm := mxS_le (p := bt v) (f := f) (n := i) (B := 1000) (fun l hl => hb l (by omega))
    rw [mxS_succ] at e
    cases hp : bt v i
    · rw [hp] at e
      simp (disch := omega) only [lits, negs, nI_add, nn1, leT, leF, ltT, ltF, eqF, mF1, mF2, mF3, mF4, mF5, mF6, mTT, eq_self, Nat.reduceEqDiff, ↓reduceIte, jbd_s, jpu_e, tI0, tI1, jgd_tI, jgd_bb, tfF, ftF, jup_at, jup_oc, jup_ok, hN, e_isIn, hp] at e ⊢
      exact e
    · rw [hp] at e
      simp (disch := omega) only [lits, negs, nI_add, nn1, leT, leF, ltT, ltF, eqF, mF1, mF2, mF3, mF4, mF5, mF6, mTT, eq_self, Nat.reduceEqDiff, ↓reduceIte, jbd_s, jpu_e, tI0, tI1, jgd_tI, jgd_bb, tfF, ftF, jup_at, jup_oc, jup_ok, hN, e_isIn, hp, ld_41, hf, jmax_nI] at e ⊢
      exact e
theorem e_gsum {v : Int32} {N : Nat} {f : Nat → Nat} {m : jMem} (hN : m 29 15 = nI N) (h30 : N ≤ 30) (hf : ∀ l, l < N → m 41 l = nI (f l)) (hb : ∀ l, l < N → f l ≤ 1000) : f_L_greatestSum v m = some (nI (mxS (bt v) f N), m) := by
  unfold f_L_greatestSum
  simp only [lits]
  exact lp_gsum hN h30 hf hb N 5000 0 (by omega) (by omega)
theorem e_isLetter {m : jMem} {N l : Nat} (hN : m 29 15 = nI N) (h30 : N ≤ 30) (h : l < N) : f_L_isLetter (nI l) m = some (nI 1, m) := by
  unfold f_L_isLetter
  simp (disch := omega) only [lits, negs, nI_add, nn1, leT, leF, ltT, ltF, eqF, mF1, mF2, mF3, mF4, mF5, mF6, mTT, eq_self, Nat.reduceEqDiff, ↓reduceIte, jbd_s, jpu_e, tI0, tI1, jgd_tI, jgd_bb, tfF, ftF, jup_at, jup_oc, jup_ok, hN]
theorem e_isLetter_no {m : jMem} {N : Nat} {x : Int32} (hN : m 29 15 = nI N) (h : x < nI 0 ∨ nI N ≤ x) : f_L_isLetter x m = some (nI 0, m) := by
  unfold f_L_isLetter
  simp only [lits, hN]
  rcases h with h | h
  · rw [if_pos h]
  · rw [if_pos h]
    by_cases q : x < nI 0
    · rw [if_pos q]
    · rw [if_neg q]
theorem e_areTwo {m : jMem} {N a b : Nat} (hN : m 29 15 = nI N) (h30 : N ≤ 30) (ha : a < N) (hb : b < N) (h : a ≠ b) : f_L_areTwo (nI a) (nI b) m = some (nI 1, m) := by
  unfold f_L_areTwo
  simp (disch := omega) only [lits, negs, nI_add, nn1, leT, leF, ltT, ltF, eqF, mF1, mF2, mF3, mF4, mF5, mF6, mTT, eq_self, Nat.reduceEqDiff, ↓reduceIte, jbd_s, jpu_e, tI0, tI1, jgd_tI, jgd_bb, tfF, ftF, jup_at, jup_oc, jup_ok, e_isLetter hN h30]
theorem e_areTwo_same {m : jMem} {N a : Nat} (hN : m 29 15 = nI N) (h30 : N ≤ 30) (ha : a < N) : f_L_areTwo (nI a) (nI a) m = some (nI 0, m) := by
  unfold f_L_areTwo
  simp (disch := omega) only [lits, negs, nI_add, nn1, leT, leF, ltT, ltF, eqF, mF1, mF2, mF3, mF4, mF5, mF6, mTT, eq_self, Nat.reduceEqDiff, ↓reduceIte, jbd_s, jpu_e, tI0, tI1, jgd_tI, jgd_bb, tfF, ftF, jup_at, jup_oc, jup_ok, e_isLetter hN h30]
theorem e_areTwo_no {m : jMem} {N : Nat} {x y : Int32} (hN : m 29 15 = nI N) (h30 : N ≤ 30) (h : (x < nI 0 ∨ nI N ≤ x) ∨ (y < nI 0 ∨ nI N ≤ y)) : f_L_areTwo x y m = some (nI 0, m) := by
  unfold f_L_areTwo
  rcases ixN x (n := N) (by omega) with hx | ⟨a, ha, rfl⟩
  · simp (disch := omega) only [lits, negs, nI_add, nn1, leT, leF, ltT, ltF, eqF, mF1, mF2, mF3, mF4, mF5, mF6, mTT, eq_self, Nat.reduceEqDiff, ↓reduceIte, jbd_s, jpu_e, tI0, tI1, jgd_tI, jgd_bb, tfF, ftF, jup_at, jup_oc, jup_ok, e_isLetter_no hN hx]
  · rcases h with h | h
    · exfalso
      rcases h with h | h
      · exact nI_pos (by omega) h
      · exact nI_ge ha (by omega) h
    · simp (disch := omega) only [lits, negs, nI_add, nn1, leT, leF, ltT, ltF, eqF, mF1, mF2, mF3, mF4, mF5, mF6, mTT, eq_self, Nat.reduceEqDiff, ↓reduceIte, jbd_s, jpu_e, tI0, tI1, jgd_tI, jgd_bb, tfF, ftF, jup_at, jup_oc, jup_ok, e_isLetter hN h30, e_isLetter_no hN h]
