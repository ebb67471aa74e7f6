/-! what a letter waits for -/
theorem jgd_hok {ρ : Type} {n : Nat} (h : n = 3 ∨ n = 12) (o : Option ρ) : jgd (jhok n) o = o := jgd_T h o
theorem jgd_ok {ρ : Type} {a b : Nat} (ha : a = 0 ∨ (1001 ≤ a ∧ a ≤ 1033)) (hb : b = 0 ∨ (1001 ≤ b ∧ b ≤ 1033)) (o : Option ρ) : jgd (jok a ∧ jok b) o = o := jgd_T ⟨ha, hb⟩ o
theorem jgd_tk {ρ : Type} {a : Nat} (ha : 1001 ≤ a ∧ a ≤ 1033) (o : Option ρ) : jgd (jtk a) o = o := jgd_T ha o
theorem nqT {a b : Nat} (h : a = b) : (a = b) = True := eq_true h
theorem nqF {a b : Nat} (h : a ≠ b) : (a = b) = False := eq_false h
theorem RX_rule {m : jMem} (rx : RX m) {w : Nat} (hw : w < 6) : ∃ r, r ≤ 4 ∧ m 116 w = nI r ∧ ((m 1 2).toNatClampNeg = 3 ∨ (m 1 2).toNatClampNeg = 12) ∧ f_H_ruleOf (m 1 2).toNatClampNeg (nI w) m = some (1011 + r, m) := by
  obtain ⟨hb, hd, h0, h1, -, -, -, -, hr, -⟩ := rx
  obtain ⟨r, r1, r2, r3⟩ := hr w hw
  have e : (m 1 2).toNatClampNeg = hb := by rw [h1]; exact nI_clamp (by omega)
  refine ⟨r, r1, r2, by rw [e]; omega, ?_⟩
  rw [e]
  unfold f_H_ruleOf
  have hbb : hb = 3 ∨ hb = 12 := by omega
  cases hq : bt (m hb 1) w
  · rw [hq, if_neg (by decide)] at r3
    simp (disch := omega) only [lits, negs, nI_add, nn1, leT, leF, ltT, ltF, eqF, mF1, mF2, mF3, mF4, mF5, mF6, mTT, eq_self, Nat.reduceEqDiff, ↓reduceIte, jbd_s, jpu_e, tI0, tI1, jgd_tI, jgd_bb, tfF, ftF, jup_at, jup_oc, jup_ok, e_isIn, hq, r3]
  · rw [hq, if_pos rfl] at r3
    rcases hbb with rfl | rfl
    · have r4 : m 4 w = nI (1011 + r) := r3
      simp (disch := omega) only [lits, negs, nI_add, nn1, leT, leF, ltT, ltF, eqF, mF1, mF2, mF3, mF4, mF5, mF6, mTT, eq_self, Nat.reduceEqDiff, ↓reduceIte, jbd_s, jpu_e, tI0, tI1, jgd_tI, jgd_bb, tfF, ftF, jup_at, jup_oc, jup_ok, e_isIn, hq]
      show jl4 m 4 (nI w) _ = _
      rw [l4_4 hw, r4, nI_clamp (by omega)]
    · have r4 : m 13 w = nI (1011 + r) := r3
      simp (disch := omega) only [lits, negs, nI_add, nn1, leT, leF, ltT, ltF, eqF, mF1, mF2, mF3, mF4, mF5, mF6, mTT, eq_self, Nat.reduceEqDiff, ↓reduceIte, jbd_s, jpu_e, tI0, tI1, jgd_tI, jgd_bb, tfF, ftF, jup_at, jup_oc, jup_ok, e_isIn, hq]
      show jl4 m 13 (nI w) _ = _
      rw [l4_13 hw, r4, nI_clamp (by omega)]
def isP (m : jMem) (r l x : Nat) : Bool := if r = 2 then decide (m 121 x = m 121 l) else if r = 3 then (decide (m 125 l = nI x) || decide (m 126 l = nI x)) else if r = 4 then bt (m 128 l) x else false
def wtP (m : jMem) (r w l x : Nat) : Bool := isP m r l x && (bt (m 124 x) w && !bt (m 135 w) x)
theorem isP_2 (m : jMem) (l x : Nat) : isP m 2 l x = decide (m 121 x = m 121 l) := rfl
theorem isP_3 (m : jMem) (l x : Nat) : isP m 3 l x = (decide (m 125 l = nI x) || decide (m 126 l = nI x)) := rfl
theorem isP_4 (m : jMem) (l x : Nat) : isP m 4 l x = bt (m 128 l) x := rfl
theorem lp_Mwaits {r w l : Nat} {k : Int32 → jMem → Option (Int32 × jMem)} {m : jMem} (hw : w < 6) (hl : l < 30) (hr4 : r ≤ 4) (hr : m 116 w = nI r) : ∀ (d n i : Nat), i + d = l → d < n → lp_M_waitsFor_5 (nI w) (nI l) k n (setS (wtP m r w l) i) (nI i) m = k (setS (wtP m r w l) l) m := by
  intro d
  induction d with
  | zero =>
    intro n i hid hdn
    obtain ⟨n, rfl⟩ := ex_succ hdn
    rw [show i = l by omega]
    unfold lp_M_waitsFor_5
    simp (disch := omega) only [lits, negs, nI_add, nn1, leT, leF, ltT, ltF, eqF, mF1, mF2, mF3, mF4, mF5, mF6, mTT, eq_self, Nat.reduceEqDiff, ↓reduceIte, jbd_s, jpu_e, tI0, tI1, jgd_tI, jgd_bb, tfF, ftF, jup_at, jup_oc, jup_ok]
  | succ d ih =>
    intro n i hid hdn
    obtain ⟨n, rfl⟩ := ex_succ hdn
    have e := ih n (i + 1) (by omega) (by omega)
    unfold lp_M_waitsFor_5
    rw [setS_succ] at e
    simp only [lits, negs]
    have hwt : wtP m r w l i = (isP m r l i && (bt (m 124 i) w && !bt (m 135 w) i)) := rfl
    rw [hwt] at e
    rcases (by omega : r = 0 ∨ r = 1 ∨ r = 2 ∨ r = 3 ∨ r = 4) with rfl | rfl | rfl | rfl | rfl
    · have e0 : isP m 0 l i = false := rfl
      rw [e0, Bool.false_and, if_neg (by decide)] at e
      simp (disch := omega) only [lits, negs, nI_add, nn1, leT, leF, ltT, ltF, eqF, mF1, mF2, mF3, mF4, mF5, mF6, mTT, eq_self, Nat.reduceEqDiff, ↓reduceIte, ↓jbd_s, ↓jpu_e, tI0, tI1, jgd_tI, jgd_bb, tfF, ftF, jup_at, jup_oc, jup_ok, ↓ld_116, hr]
      exact e
    · have e0 : isP m 1 l i = false := rfl
      rw [e0, Bool.false_and, if_neg (by decide)] at e
      simp (disch := omega) only [lits, negs, nI_add, nn1, leT, leF, ltT, ltF, eqF, mF1, mF2, mF3, mF4, mF5, mF6, mTT, eq_self, Nat.reduceEqDiff, ↓reduceIte, ↓jbd_s, ↓jpu_e, tI0, tI1, jgd_tI, jgd_bb, tfF, ftF, jup_at, jup_oc, jup_ok, ↓ld_116, hr]
      exact e
    · rw [isP_2] at e
      by_cases h1 : m 121 i = m 121 l
      · rw [decide_eq_true h1, Bool.true_and] at e
        cases h2 : bt (m 124 i) w
        · rw [h2, Bool.false_and, if_neg (by decide)] at e
          simp (disch := omega) only [lits, negs, nI_add, nn1, leT, leF, ltT, ltF, eqF, mF1, mF2, mF3, mF4, mF5, mF6, mTT, eq_self, Nat.reduceEqDiff, ↓reduceIte, ↓jbd_s, ↓jpu_e, tI0, tI1, jgd_tI, jgd_bb, tfF, ftF, jup_at, jup_oc, jup_ok, ↓ld_116, hr, ↓ld_121, h1, ↓ld_124, bit1, h2]
          exact e
        · cases h3 : bt (m 135 w) i
          · rw [h2, h3, Bool.not_false, Bool.true_and, if_pos rfl] at e
            simp (disch := omega) only [lits, negs, nI_add, nn1, leT, leF, ltT, ltF, eqF, mF1, mF2, mF3, mF4, mF5, mF6, mTT, eq_self, Nat.reduceEqDiff, ↓reduceIte, ↓jbd_s, ↓jpu_e, tI0, tI1, jgd_tI, jgd_bb, tfF, ftF, jup_at, jup_oc, jup_ok, ↓ld_116, hr, ↓ld_121, h1, ↓ld_124, bit1, h2, ↓ld_135, bit0, h3, sb_e]
            exact e
          · rw [h2, h3, Bool.not_true, Bool.and_false, if_neg (by decide)] at e
            simp (disch := omega) only [lits, negs, nI_add, nn1, leT, leF, ltT, ltF, eqF, mF1, mF2, mF3, mF4, mF5, mF6, mTT, eq_self, Nat.reduceEqDiff, ↓reduceIte, ↓jbd_s, ↓jpu_e, tI0, tI1, jgd_tI, jgd_bb, tfF, ftF, jup_at, jup_oc, jup_ok, ↓ld_116, hr, ↓ld_121, h1, ↓ld_124, bit1, h2, ↓ld_135, bit0, h3, sb_e]
            exact e
      · rw [decide_eq_false h1, Bool.false_and, if_neg (by decide)] at e
        simp (disch := omega) only [lits, negs, nI_add, nn1, leT, leF, ltT, ltF, eqF, mF1, mF2, mF3, mF4, mF5, mF6, mTT, eq_self, Nat.reduceEqDiff, ↓reduceIte, ↓jbd_s, ↓jpu_e, tI0, tI1, jgd_tI, jgd_bb, tfF, ftF, jup_at, jup_oc, jup_ok, ↓ld_116, hr, ↓ld_121, h1]
        exact e
    · rw [isP_3] at e
      by_cases h1 : m 125 l = nI i
      · rw [decide_eq_true h1, Bool.true_or, Bool.true_and] at e
        cases h2 : bt (m 124 i) w
        · rw [h2, Bool.false_and, if_neg (by decide)] at e
          simp (disch := omega) only [lits, negs, nI_add, nn1, leT, leF, ltT, ltF, eqF, mF1, mF2, mF3, mF4, mF5, mF6, mTT, eq_self, Nat.reduceEqDiff, ↓reduceIte, ↓jbd_s, ↓jpu_e, tI0, tI1, jgd_tI, jgd_bb, tfF, ftF, jup_at, jup_oc, jup_ok, ↓ld_116, hr, ↓ld_125, h1, ↓ld_124, bit1, h2]
          exact e
        · cases h3 : bt (m 135 w) i
          · rw [h2, h3, Bool.not_false, Bool.true_and, if_pos rfl] at e
            simp (disch := omega) only [lits, negs, nI_add, nn1, leT, leF, ltT, ltF, eqF, mF1, mF2, mF3, mF4, mF5, mF6, mTT, eq_self, Nat.reduceEqDiff, ↓reduceIte, ↓jbd_s, ↓jpu_e, tI0, tI1, jgd_tI, jgd_bb, tfF, ftF, jup_at, jup_oc, jup_ok, ↓ld_116, hr, ↓ld_125, h1, ↓ld_124, bit1, h2, ↓ld_135, bit0, h3, sb_e]
            exact e
          · rw [h2, h3, Bool.not_true, Bool.and_false, if_neg (by decide)] at e
            simp (disch := omega) only [lits, negs, nI_add, nn1, leT, leF, ltT, ltF, eqF, mF1, mF2, mF3, mF4, mF5, mF6, mTT, eq_self, Nat.reduceEqDiff, ↓reduceIte, ↓jbd_s, ↓jpu_e, tI0, tI1, jgd_tI, jgd_bb, tfF, ftF, jup_at, jup_oc, jup_ok, ↓ld_116, hr, ↓ld_125, h1, ↓ld_124, bit1, h2, ↓ld_135, bit0, h3, sb_e]
            exact e
      · by_cases h4 : m 126 l = nI i
        · rw [decide_eq_true h4, Bool.or_true, Bool.true_and] at e
          cases h2 : bt (m 124 i) w
          · rw [h2, Bool.false_and, if_neg (by decide)] at e
            simp (disch := omega) only [lits, negs, nI_add, nn1, leT, leF, ltT, ltF, eqF, mF1, mF2, mF3, mF4, mF5, mF6, mTT, eq_self, Nat.reduceEqDiff, ↓reduceIte, ↓jbd_s, ↓jpu_e, tI0, tI1, jgd_tI, jgd_bb, tfF, ftF, jup_at, jup_oc, jup_ok, ↓ld_116, hr, ↓ld_125, h1, ↓ld_126, h4, ↓ld_124, bit1, h2]
            exact e
          · cases h3 : bt (m 135 w) i
            · rw [h2, h3, Bool.not_false, Bool.true_and, if_pos rfl] at e
              simp (disch := omega) only [lits, negs, nI_add, nn1, leT, leF, ltT, ltF, eqF, mF1, mF2, mF3, mF4, mF5, mF6, mTT, eq_self, Nat.reduceEqDiff, ↓reduceIte, ↓jbd_s, ↓jpu_e, tI0, tI1, jgd_tI, jgd_bb, tfF, ftF, jup_at, jup_oc, jup_ok, ↓ld_116, hr, ↓ld_125, h1, ↓ld_126, h4, ↓ld_124, bit1, h2, ↓ld_135, bit0, h3, sb_e]
              exact e
            · rw [h2, h3, Bool.not_true, Bool.and_false, if_neg (by decide)] at e
              simp (disch := omega) only [lits, negs, nI_add, nn1, leT, leF, ltT, ltF, eqF, mF1, mF2, mF3, mF4, mF5, mF6, mTT, eq_self, Nat.reduceEqDiff, ↓reduceIte, ↓jbd_s, ↓jpu_e, tI0, tI1, jgd_tI, jgd_bb, tfF, ftF, jup_at, jup_oc, jup_ok, ↓ld_116, hr, ↓ld_125, h1, ↓ld_126, h4, ↓ld_124, bit1, h2, ↓ld_135, bit0, h3, sb_e]
              exact e
        · rw [decide_eq_false h1, decide_eq_false h4, Bool.false_or, Bool.false_and, if_neg (by decide)] at e
          simp (disch := omega) only [lits, negs, nI_add, nn1, leT, leF, ltT, ltF, eqF, mF1, mF2, mF3, mF4, mF5, mF6, mTT, eq_self, Nat.reduceEqDiff, ↓reduceIte, ↓jbd_s, ↓jpu_e, tI0, tI1, jgd_tI, jgd_bb, tfF, ftF, jup_at, jup_oc, jup_ok, ↓ld_116, hr, ↓ld_125, h1, ↓ld_126, h4]
          exact e
    · rw [isP_4] at e
      cases h1 : bt (m 128 l) i
      · rw [h1, Bool.false_and, if_neg (by decide)] at e
        simp (disch := omega) only [lits, negs, nI_add, nn1, leT, leF, ltT, ltF, eqF, mF1, mF2, mF3, mF4, mF5, mF6, mTT, eq_self, Nat.reduceEqDiff, ↓reduceIte, ↓jbd_s, ↓jpu_e, tI0, tI1, jgd_tI, jgd_bb, tfF, ftF, jup_at, jup_oc, jup_ok, ↓ld_116, hr, ↓ld_128, bit1, h1]
        exact e
      · rw [h1, Bool.true_and] at e
        cases h2 : bt (m 124 i) w
        · rw [h2, Bool.false_and, if_neg (by decide)] at e
          simp (disch := omega) only [lits, negs, nI_add, nn1, leT, leF, ltT, ltF, eqF, mF1, mF2, mF3, mF4, mF5, mF6, mTT, eq_self, Nat.reduceEqDiff, ↓reduceIte, ↓jbd_s, ↓jpu_e, tI0, tI1, jgd_tI, jgd_bb, tfF, ftF, jup_at, jup_oc, jup_ok, ↓ld_116, hr, ↓ld_128, bit1, h1, ↓ld_124, bit1, h2]
          exact e
        · cases h3 : bt (m 135 w) i
          · rw [h2, h3, Bool.not_false, Bool.true_and, if_pos rfl] at e
            simp (disch := omega) only [lits, negs, nI_add, nn1, leT, leF, ltT, ltF, eqF, mF1, mF2, mF3, mF4, mF5, mF6, mTT, eq_self, Nat.reduceEqDiff, ↓reduceIte, ↓jbd_s, ↓jpu_e, tI0, tI1, jgd_tI, jgd_bb, tfF, ftF, jup_at, jup_oc, jup_ok, ↓ld_116, hr, ↓ld_128, bit1, h1, ↓ld_124, bit1, h2, ↓ld_135, bit0, h3, sb_e]
            exact e
          · rw [h2, h3, Bool.not_true, Bool.and_false, if_neg (by decide)] at e
            simp (disch := omega) only [lits, negs, nI_add, nn1, leT, leF, ltT, ltF, eqF, mF1, mF2, mF3, mF4, mF5, mF6, mTT, eq_self, Nat.reduceEqDiff, ↓reduceIte, ↓jbd_s, ↓jpu_e, tI0, tI1, jgd_tI, jgd_bb, tfF, ftF, jup_at, jup_oc, jup_ok, ↓ld_116, hr, ↓ld_128, bit1, h1, ↓ld_124, bit1, h2, ↓ld_135, bit0, h3, sb_e]
            exact e
theorem e_Mwaits {r w l : Nat} {m : jMem} (hw : w < 6) (hl : l < 30) (hr4 : r ≤ 4) (hr : m 116 w = nI r) : f_M_waitsFor (nI w) (nI l) m = some (setS (wtP m r w l) l, m) := by
  unfold f_M_waitsFor
  simp only [lits]
  exact lp_Mwaits hw hl hr4 hr l 5000 0 (by omega) (by omega)
theorem sb1_b {l j : Nat} (hl : l ≤ 30) (hj : j < 32) : bt (sb l - nI 1) j = decide (j < l) := sb1_bits l hl j hj
theorem e_missing {N r w l : Nat} {m : jMem} (rl : RL N m) (rk : RK N m) (hw : w < 6) (hl : l < N) (hr4 : r ≤ 4) (hr : m 116 w = nI r) (hh : (m 1 2).toNatClampNeg = 3 ∨ (m 1 2).toNatClampNeg = 12) (he : f_H_ruleOf (m 1 2).toNatClampNeg (nI w) m = some (1011 + r, m)) : f_C_missing (nI w) (nI l) m = some (setS (wtP m r w l) l, m) := by
  have h30 := rl.1
  have hN := rl.2.1
  obtain ⟨q1, -, -, q4, q5, q6, -, q8⟩ := rl.2.2.2.1
  obtain ⟨wl, hwl, ewl⟩ := RL_wr rl l hl
  obtain ⟨k1, k2, -⟩ := rk.1 w hw
  have hby := rl.2.2.2.2.2.1
  have hst := rl.2.2.2.2.2.2 w hw
  obtain ⟨o1, o2⟩ := RL_oI rl l hl
  have hpl := RL_past rl (l + 1) l (by omega) hl
  -- the unread ones, bit by bit
  have hun : ∀ j, j < l → bt (m 43 w &&& (m 75 w ^^^ nM)) j = (bt (m 33 j) w && !bt (m 135 w) j) := fun j hj => by
    obtain ⟨-, -, -, hto, -⟩ := rl.2.2.2.2.1 j (by omega)
    rw [b_and, b_not (by omega), k1, b_or]
    have e1 : bt (m 43 w) j = bt (m 33 j) w := by
      rw [Bool.eq_iff_iff, hst j]
      exact ⟨fun h => h.2, fun h => ⟨by omega, h⟩⟩
    rw [e1]
    cases h1 : bt (m 33 j) w
    · rfl
    · have e2 : bt (m 42 w) j = false := by
        cases q : bt (m 42 w) j
        · rfl
        · have := hto w hw ((hby w hw j).mp q).2
          rw [h1] at this; exact absurd this (by decide)
      rw [e2, Bool.false_or]
  have hw2 : ∀ j, wtP m r w l j = (isP m r l j && (bt (m 33 j) w && !bt (m 135 w) j)) := fun j => by
    unfold wtP
    rw [q4]
  have key : ∀ X : Int32, (∀ j, j < l → bt X j = isP m r l j) → (∀ j, j < 32 → bt X j = true → j < l) → (m 43 w &&& (m 75 w ^^^ nM)) &&& X = setS (wtP m r w l) l := fun X h1 h2 => by
    apply b_ext
    intro j hj
    rw [b_and, b_setS hj (by omega), hw2]
    by_cases q : j < l
    · rw [decide_eq_true q, Bool.true_and, hun j q, h1 j q, Bool.and_comm]
    · rw [decide_eq_false q, Bool.false_and]
      cases q2 : bt X j
      · rw [Bool.and_false]
      · exact absurd (h2 j hj q2) q
  unfold f_C_missing
  simp only [lits, negs]
  rcases (by omega : r = 0 ∨ r = 1 ∨ r = 2 ∨ r = 3 ∨ r = 4) with rfl | rfl | rfl | rfl | rfl
  · have e0 : setS (wtP m 0 w l) l = nI 0 := setS_top (n := 0) (by omega) (fun j _ _ => rfl)
    simp (disch := omega) only [lits, negs, nI_add, nn1, leT, leF, ltT, ltF, eqF, mF1, mF2, mF3, mF4, mF5, mF6, mTT, eq_self, Nat.reduceEqDiff, ↓reduceIte, ↓jbd_s, ↓jpu_e, tI0, tI1, jgd_tI, jgd_bb, tfF, ftF, jup_at, jup_oc, jup_ok, ↓jb (e_isWriter (m := m) hw), ↓jb (e_isLetter hN h30 hl), ↓ld_43, ↓ld_75, jgd_hok hh, ↓jb he, jgd_ok, nqT, nqF, e0]
  · have e0 : setS (wtP m 1 w l) l = nI 0 := setS_top (n := 0) (by omega) (fun j _ _ => rfl)
    simp (disch := omega) only [lits, negs, nI_add, nn1, leT, leF, ltT, ltF, eqF, mF1, mF2, mF3, mF4, mF5, mF6, mTT, eq_self, Nat.reduceEqDiff, ↓reduceIte, ↓jbd_s, ↓jpu_e, tI0, tI1, jgd_tI, jgd_bb, tfF, ftF, jup_at, jup_oc, jup_ok, ↓jb (e_isWriter (m := m) hw), ↓jb (e_isLetter hN h30 hl), ↓ld_43, ↓ld_75, jgd_hok hh, ↓jb he, jgd_ok, nqT, nqF, e0]
  · have e0 := key (m 42 wl &&& (sb l - nI 1)) (fun j hj => by
      rw [b_and, sb1_b (by omega) (by omega), decide_eq_true hj, Bool.and_true, isP_2, q1, ewl]
      rw [Bool.eq_iff_iff, hby wl hwl j, decide_eq_true_iff]
      exact ⟨fun h => h.2, fun h => ⟨by omega, h⟩⟩) (fun j hj h => by
      rw [b_and, sb1_b (by omega) hj, Bool.and_eq_true, decide_eq_true_iff] at h
      exact h.2)
    have e1 : (m 43 w &&& (m 75 w ^^^ nM)) &&& m 42 wl &&& (sb l - nI 1) = setS (wtP m 2 w l) l := by
      rw [← e0]
      apply b_ext
      intro j _
      simp only [b_and, Bool.and_assoc]
    simp (disch := omega) only [lits, negs, nI_add, nn1, leT, leF, ltT, ltF, eqF, mF1, mF2, mF3, mF4, mF5, mF6, mTT, eq_self, Nat.reduceEqDiff, ↓reduceIte, ↓jbd_s, ↓jpu_e, tI0, tI1, jgd_tI, jgd_bb, tfF, ftF, jup_at, jup_oc, jup_ok, ↓jb (e_isWriter (m := m) hw), ↓jb (e_isLetter hN h30 hl), ↓ld_43, ↓ld_75, jgd_hok hh, ↓jb he, jgd_ok, nqT, nqF, ↓ld_30, ewl, ↓ld_42, ↓jb (e_bit (m := m) l), e1]
  · have e0 := key (ansS (m 34 l) (m 35 l)) (fun j hj => by
      rw [b_ansS (by omega) o1 o2 (by omega), isP_3, q5, q6]) (fun j hj h => by
      rw [b_ansS (by omega) o1 o2 hj, Bool.or_eq_true, decide_eq_true_iff, decide_eq_true_iff] at h
      rcases h with h | h
      · exact oI_lt (by omega) o1 hj h
      · exact oI_lt (by omega) o2 hj h)
    simp (disch := omega) only [lits, negs, nI_add, nn1, leT, leF, ltT, ltF, eqF, mF1, mF2, mF3, mF4, mF5, mF6, mTT, eq_self, Nat.reduceEqDiff, ↓reduceIte, ↓jbd_s, ↓jpu_e, tI0, tI1, jgd_tI, jgd_bb, tfF, ftF, jup_at, jup_oc, jup_ok, ↓jb (e_isWriter (m := m) hw), ↓jb (e_isLetter hN h30 hl), ↓ld_43, ↓ld_75, jgd_hok hh, ↓jb he, jgd_ok, nqT, nqF, ↓jb (e_answered (m := m) (by omega : l < 30)), e0]
  · have e0 := key (m 37 l) (fun j hj => by rw [isP_4, q8]) (fun j _ h => hpl j h)
    simp (disch := omega) only [lits, negs, nI_add, nn1, leT, leF, ltT, ltF, eqF, mF1, mF2, mF3, mF4, mF5, mF6, mTT, eq_self, Nat.reduceEqDiff, ↓reduceIte, ↓jbd_s, ↓jpu_e, tI0, tI1, jgd_tI, jgd_bb, tfF, ftF, jup_at, jup_oc, jup_ok, ↓jb (e_isWriter (m := m) hw), ↓jb (e_isLetter hN h30 hl), ↓ld_43, ↓ld_75, jgd_hok hh, ↓jb he, jgd_ok, nqT, nqF, ↓ld_37, e0]
