/-! how a line's knots are worked out -/
def jnS (t : Nat) (a b : Int32) : Int32 :=
  if t = 1023 then tI (!decide (a = nI 0) || !decide (b = nI 0)) else if t = 1024 then tI (!decide (a = nI 0) && !decide (b = nI 0)) else if t = 1026 then tI (decide (a < b)) else if t = 1027 then tI (decide (a ≤ b)) else if t = 1028 then tI (decide (a = b)) else if t = 1029 then tI (!decide (a = b)) else if t = 1030 then tI (decide (b ≤ a)) else if t = 1031 then tI (decide (b < a)) else if t = 1032 then a + b else a - b
theorem jnS_1 (a b : Int32) : jnS 1023 a b = tI (!decide (a = nI 0) || !decide (b = nI 0)) := rfl
theorem jnS_2 (a b : Int32) : jnS 1024 a b = tI (!decide (a = nI 0) && !decide (b = nI 0)) := rfl
theorem jnS_3 (a b : Int32) : jnS 1026 a b = tI (decide (a < b)) := rfl
theorem jnS_4 (a b : Int32) : jnS 1027 a b = tI (decide (a ≤ b)) := rfl
theorem jnS_5 (a b : Int32) : jnS 1028 a b = tI (decide (a = b)) := rfl
theorem jnS_6 (a b : Int32) : jnS 1029 a b = tI (!decide (a = b)) := rfl
theorem jnS_7 (a b : Int32) : jnS 1030 a b = tI (decide (b ≤ a)) := rfl
theorem jnS_8 (a b : Int32) : jnS 1031 a b = tI (decide (b < a)) := rfl
theorem jnS_9 (a b : Int32) : jnS 1032 a b = a + b := rfl
theorem jnS_10 (a b : Int32) : jnS 1033 a b = a - b := rfl
def binT (t : Nat) : Prop := t = 1023 ∨ t = 1024 ∨ t = 1026 ∨ t = 1027 ∨ t = 1028 ∨ t = 1029 ∨ t = 1030 ∨ t = 1031 ∨ t = 1032 ∨ t = 1033
theorem jlt_e {α ρ : Type} (v : α) (K : α → Option ρ) : jlt v K = K v := Eq.trans (Eq.refl (jlt v K)) rfl
theorem jLsw_e {ρ : Type} {i : Nat} (hi : i < 33) (K : Int32 → Option ρ) : jLsw (nI i) K = K (jswL.getD i 0) := by
  unfold jLsw
  rw [if_neg (nI_in hi (by decide)), nI_clamp (by omega)]
theorem e_joined {t : Nat} {a b : Int32} {m : jMem} (ht : binT t) : f_H_joined t a b m = some (jnS t a b, m) := by
  unfold f_H_joined
  simp only [lits, negs]
  rcases ht with rfl | rfl | rfl | rfl | rfl | rfl | rfl | rfl | rfl | rfl
  · have hO : jtkO 1023 = nI 22 := by decide
    have hs : jswL.getD 22 0 = nI 1 := by decide
    rw [jgd_tk (by omega), jlt_e, hO, jLsw_e (by omega), hs]
    rw [jnS_1]
    by_cases h1 : a = nI 0 <;> by_cases h2 : b = nI 0 <;> simp (disch := omega) only [lits, negs, nI_add, nn1, leT, leF, ltT, ltF, eqF, mF1, mF2, mF3, mF4, mF5, mF6, mTT, eq_self, Nat.reduceEqDiff, ↓reduceIte, ↓jbd_s, ↓jpu_e, tI0, tI1, jgd_tI, jgd_bb, tfF, ftF, jup_at, jup_oc, jup_ok, h1, h2, e_truth0, e_truth1, decide_true, decide_false, Bool.not_true, Bool.not_false, Bool.or_true, Bool.true_or, Bool.or_false, tI_t, tI_f]
  · have hO : jtkO 1024 = nI 23 := by decide
    have hs : jswL.getD 23 0 = nI 2 := by decide
    rw [jgd_tk (by omega), jlt_e, hO, jLsw_e (by omega), hs]
    rw [jnS_2]
    by_cases h1 : a = nI 0 <;> by_cases h2 : b = nI 0 <;> simp (disch := omega) only [lits, negs, nI_add, nn1, leT, leF, ltT, ltF, eqF, mF1, mF2, mF3, mF4, mF5, mF6, mTT, eq_self, Nat.reduceEqDiff, ↓reduceIte, ↓jbd_s, ↓jpu_e, tI0, tI1, jgd_tI, jgd_bb, tfF, ftF, jup_at, jup_oc, jup_ok, h1, h2, e_truth0, e_truth1, decide_true, decide_false, Bool.not_true, Bool.not_false, Bool.and_true, Bool.true_and, Bool.and_false, Bool.false_and, tI_t, tI_f]
  · have hO : jtkO 1026 = nI 25 := by decide
    have hs : jswL.getD 25 0 = nI 3 := by decide
    rw [jgd_tk (by omega), jlt_e, hO, jLsw_e (by omega), hs]
    rw [jnS_3]
    have e : b ≤ a ↔ ¬ a < b := by rw [Int32.not_lt]
    by_cases h1 : a < b
    · have h2 : ¬ b ≤ a := by rw [e]; exact fun z => z h1
      simp (disch := omega) only [lits, negs, nI_add, nn1, leT, leF, ltT, ltF, eqF, mF1, mF2, mF3, mF4, mF5, mF6, mTT, eq_self, Nat.reduceEqDiff, ↓reduceIte, ↓jbd_s, ↓jpu_e, tI0, tI1, jgd_tI, jgd_bb, tfF, ftF, jup_at, jup_oc, jup_ok, h1, h2, e_truth0, e_truth1, decide_true, tI_t]
    · have h2 : b ≤ a := e.mpr h1
      simp (disch := omega) only [lits, negs, nI_add, nn1, leT, leF, ltT, ltF, eqF, mF1, mF2, mF3, mF4, mF5, mF6, mTT, eq_self, Nat.reduceEqDiff, ↓reduceIte, ↓jbd_s, ↓jpu_e, tI0, tI1, jgd_tI, jgd_bb, tfF, ftF, jup_at, jup_oc, jup_ok, h1, h2, e_truth0, e_truth1, decide_false, tI_f]
  · have hO : jtkO 1027 = nI 26 := by decide
    have hs : jswL.getD 26 0 = nI 4 := by decide
    rw [jgd_tk (by omega), jlt_e, hO, jLsw_e (by omega), hs]
    rw [jnS_4]
    have e : a ≤ b ↔ ¬ b < a := by rw [Int32.not_lt]
    by_cases h1 : b < a
    · have h2 : ¬ a ≤ b := by rw [e]; exact fun z => z h1
      simp (disch := omega) only [lits, negs, nI_add, nn1, leT, leF, ltT, ltF, eqF, mF1, mF2, mF3, mF4, mF5, mF6, mTT, eq_self, Nat.reduceEqDiff, ↓reduceIte, ↓jbd_s, ↓jpu_e, tI0, tI1, jgd_tI, jgd_bb, tfF, ftF, jup_at, jup_oc, jup_ok, h1, h2, e_truth0, e_truth1, decide_false, tI_f]
    · have h2 : a ≤ b := e.mpr h1
      simp (disch := omega) only [lits, negs, nI_add, nn1, leT, leF, ltT, ltF, eqF, mF1, mF2, mF3, mF4, mF5, mF6, mTT, eq_self, Nat.reduceEqDiff, ↓reduceIte, ↓jbd_s, ↓jpu_e, tI0, tI1, jgd_tI, jgd_bb, tfF, ftF, jup_at, jup_oc, jup_ok, h1, h2, e_truth0, e_truth1, decide_true, tI_t]
  · have hO : jtkO 1028 = nI 27 := by decide
    have hs : jswL.getD 27 0 = nI 5 := by decide
    rw [jgd_tk (by omega), jlt_e, hO, jLsw_e (by omega), hs]
    rw [jnS_5]
    by_cases h1 : a = b <;> simp (disch := omega) only [lits, negs, nI_add, nn1, leT, leF, ltT, ltF, eqF, mF1, mF2, mF3, mF4, mF5, mF6, mTT, eq_self, Nat.reduceEqDiff, ↓reduceIte, ↓jbd_s, ↓jpu_e, tI0, tI1, jgd_tI, jgd_bb, tfF, ftF, jup_at, jup_oc, jup_ok, h1, e_truth0, e_truth1, decide_true, decide_false, tI_t, tI_f]
  · have hO : jtkO 1029 = nI 28 := by decide
    have hs : jswL.getD 28 0 = nI 6 := by decide
    rw [jgd_tk (by omega), jlt_e, hO, jLsw_e (by omega), hs]
    rw [jnS_6]
    by_cases h1 : a = b <;> simp (disch := omega) only [lits, negs, nI_add, nn1, leT, leF, ltT, ltF, eqF, mF1, mF2, mF3, mF4, mF5, mF6, mTT, eq_self, Nat.reduceEqDiff, ↓reduceIte, ↓jbd_s, ↓jpu_e, tI0, tI1, jgd_tI, jgd_bb, tfF, ftF, jup_at, jup_oc, jup_ok, h1, e_truth0, e_truth1, decide_true, decide_false, Bool.not_true, Bool.not_false, tI_t, tI_f]
  · have hO : jtkO 1030 = nI 29 := by decide
    have hs : jswL.getD 29 0 = nI 7 := by decide
    rw [jgd_tk (by omega), jlt_e, hO, jLsw_e (by omega), hs]
    rw [jnS_7]
    have e : b ≤ a ↔ ¬ a < b := by rw [Int32.not_lt]
    by_cases h1 : a < b
    · have h2 : ¬ b ≤ a := by rw [e]; exact fun z => z h1
      simp (disch := omega) only [lits, negs, nI_add, nn1, leT, leF, ltT, ltF, eqF, mF1, mF2, mF3, mF4, mF5, mF6, mTT, eq_self, Nat.reduceEqDiff, ↓reduceIte, ↓jbd_s, ↓jpu_e, tI0, tI1, jgd_tI, jgd_bb, tfF, ftF, jup_at, jup_oc, jup_ok, h1, h2, e_truth0, e_truth1, decide_false, tI_f]
    · have h2 : b ≤ a := e.mpr h1
      simp (disch := omega) only [lits, negs, nI_add, nn1, leT, leF, ltT, ltF, eqF, mF1, mF2, mF3, mF4, mF5, mF6, mTT, eq_self, Nat.reduceEqDiff, ↓reduceIte, ↓jbd_s, ↓jpu_e, tI0, tI1, jgd_tI, jgd_bb, tfF, ftF, jup_at, jup_oc, jup_ok, h1, h2, e_truth0, e_truth1, decide_true, tI_t]
  · have hO : jtkO 1031 = nI 30 := by decide
    have hs : jswL.getD 30 0 = nI 8 := by decide
    rw [jgd_tk (by omega), jlt_e, hO, jLsw_e (by omega), hs]
    rw [jnS_8]
    have e : a ≤ b ↔ ¬ b < a := by rw [Int32.not_lt]
    by_cases h1 : b < a
    · have h2 : ¬ a ≤ b := by rw [e]; exact fun z => z h1
      simp (disch := omega) only [lits, negs, nI_add, nn1, leT, leF, ltT, ltF, eqF, mF1, mF2, mF3, mF4, mF5, mF6, mTT, eq_self, Nat.reduceEqDiff, ↓reduceIte, ↓jbd_s, ↓jpu_e, tI0, tI1, jgd_tI, jgd_bb, tfF, ftF, jup_at, jup_oc, jup_ok, h1, h2, e_truth0, e_truth1, decide_true, tI_t]
    · have h2 : a ≤ b := e.mpr h1
      simp (disch := omega) only [lits, negs, nI_add, nn1, leT, leF, ltT, ltF, eqF, mF1, mF2, mF3, mF4, mF5, mF6, mTT, eq_self, Nat.reduceEqDiff, ↓reduceIte, ↓jbd_s, ↓jpu_e, tI0, tI1, jgd_tI, jgd_bb, tfF, ftF, jup_at, jup_oc, jup_ok, h1, h2, e_truth0, e_truth1, decide_false, tI_f]
  · have hO : jtkO 1032 = nI 31 := by decide
    have hs : jswL.getD 31 0 = nI 9 := by decide
    rw [jgd_tk (by omega), jlt_e, hO, jLsw_e (by omega), hs]
    rw [jnS_9]
    simp (disch := omega) only [lits, negs, nI_add, nn1, leT, leF, ltT, ltF, eqF, mF1, mF2, mF3, mF4, mF5, mF6, mTT, eq_self, Nat.reduceEqDiff, ↓reduceIte, ↓jbd_s, ↓jpu_e, tI0, tI1, jgd_tI, jgd_bb, tfF, ftF, jup_at, jup_oc, jup_ok]
  · have hO : jtkO 1033 = nI 32 := by decide
    have hs : jswL.getD 32 0 = nI 0 := by decide
    rw [jgd_tk (by omega), jlt_e, hO, jLsw_e (by omega), hs]
    rw [jnS_10]
    simp (disch := omega) only [lits, negs, nI_add, nn1, leT, leF, ltT, ltF, eqF, mF1, mF2, mF3, mF4, mF5, mF6, mTT, eq_self, Nat.reduceEqDiff, ↓reduceIte, ↓jbd_s, ↓jpu_e, tI0, tI1, jgd_tI, jgd_bb, tfF, ftF, jup_at, jup_oc, jup_ok]
theorem jhlen {hb : Nat} (h : hb = 3 ∨ hb = 12) : jlen 4 (hb + 6) = 64 ∧ jlen 1 (hb + 7) = 64 ∧ jlen 1 (hb + 8) = 64 ∧ jlen 1 (hb + 4) = 8 ∧ jlen 1 (hb + 5) = 8 ∧ jlen 1 (hb + 3) = 8 ∧ jlen 2 (hb + 2) = 8 := by
  rcases h with rfl | rfl <;> decide +kernel
theorem wo_num {hb k top : Nat} {m : jMem} (hh : hb = 3 ∨ hb = 12) (hk : k < 64) (htok : m (hb + 6) k = nI 1003) (ht : top < 64) : f_H_workOut hb (nI k) (nI top) 28 m = some (nI (top + 1), jup m (hb + 8) top (m (hb + 7) k)) := by
  obtain ⟨l6, l7, l8, -⟩ := jhlen hh
  have hR : jtkR 1003 = nI 0 := by decide
  have hp : Int32.ofNat (jpar 28) = nI 7 := by decide +kernel
  have hc : (nI 1003).toNatClampNeg = 1003 := nI_clamp (by omega)
  unfold f_H_workOut
  simp only [lits, negs]
  simp (disch := omega) only [↓jl4_nI l6, htok, hc, nqF, nqT, ↓reduceIte, jgd_ok, jgd_tk, jlt_e, hR, jgd_T (show jtag 28 = 1 by decide +kernel), hp, leF, leT, ltT, ltF, ↓jld_nI l7, ↓jst_nI l8, nI_add]
theorem wo_name {hb k top i : Nat} {m : jMem} (hh : hb = 3 ∨ hb = 12) (hk : k < 64) (hi : i < 7) (htok : m (hb + 6) k = nI (1016 + i)) (ht : top < 64) : f_H_workOut hb (nI k) (nI top) 28 m = some (nI (top + 1), jup m (hb + 8) top (m 28 i)) := by
  obtain ⟨l6, l7, l8, -⟩ := jhlen hh
  have hR : jtkR (1016 + i) = nI i := (by decide +kernel : ∀ i, i < 7 → jtkR (1016 + i) = nI i) i hi
  have hP : jtkP (1016 + i) = nI 2 := (by decide +kernel : ∀ i, i < 7 → jtkP (1016 + i) = nI 2) i hi
  have hp : Int32.ofNat (jpar 28) = nI 7 := by decide +kernel
  have hc : (nI (1016 + i)).toNatClampNeg = 1016 + i := nI_clamp (by omega)
  unfold f_H_workOut
  simp only [lits, negs]
  simp (disch := omega) only [↓jl4_nI l6, htok, hc, nqF, nqT, eqF, eq_self, ↓reduceIte, jgd_ok, jgd_tk, jlt_e, hR, hP, jgd_T (show jtag 28 = 1 by decide +kernel), hp, leF, leT, ltT, ltF, ↓ld_28, ↓jst_nI l8, nI_add]
theorem wo_not {hb k p : Nat} {m : jMem} (hh : hb = 3 ∨ hb = 12) (hk : k < 64) (htok : m (hb + 6) k = nI 1025) (ht : p < 64) : f_H_workOut hb (nI k) (nI (p + 1)) 28 m = some (nI (p + 1), jup m (hb + 8) p (tI (decide (m (hb + 8) p = nI 0)))) := by
  obtain ⟨l6, l7, l8, -⟩ := jhlen hh
  have hP : jtkP 1025 = nI 0 := by decide
  have hc : (nI 1025).toNatClampNeg = 1025 := nI_clamp (by omega)
  unfold f_H_workOut
  simp only [lits, negs]
  by_cases h0 : m (hb + 8) p = nI 0
  · simp (disch := omega) only [↓jl4_nI l6, htok, hc, nqF, nqT, eqF, eq_self, ↓reduceIte, jgd_ok, jgd_tk, jlt_e, hP, leF, leT, ltT, ltF, nn1, ↓jld_nI l8, h0, e_truth1, e_truth0, jbd_s, ↓jst_nI l8, decide_true, tI_t]
  · simp (disch := omega) only [↓jl4_nI l6, htok, hc, nqF, nqT, eqF, eq_self, ↓reduceIte, jgd_ok, jgd_tk, jlt_e, hP, leF, leT, ltT, ltF, nn1, ↓jld_nI l8, h0, e_truth1, e_truth0, jbd_s, ↓jst_nI l8, decide_false, tI_f]
theorem wo_bin {hb k p t : Nat} {m : jMem} (hh : hb = 3 ∨ hb = 12) (hk : k < 64) (hb2 : binT t) (htok : m (hb + 6) k = nI t) (ht : p + 1 < 64) : f_H_workOut hb (nI k) (nI (p + 2)) 28 m = some (nI (p + 1), jup m (hb + 8) p (jnS t (m (hb + 8) p) (m (hb + 8) (p + 1)))) := by
  obtain ⟨l6, l7, l8, -⟩ := jhlen hh
  have hP : jtkP t = nI 3 := by rcases hb2 with rfl | rfl | rfl | rfl | rfl | rfl | rfl | rfl | rfl | rfl <;> decide
  have htt : 1023 ≤ t ∧ t ≤ 1033 ∧ t ≠ 1025 := by unfold binT at hb2; omega
  have hc : (nI t).toNatClampNeg = t := nI_clamp (by omega)
  have e1 : nI (p + 2) - nI 1 = nI (p + 1) := nn1 (p + 1)
  have e2 : nI (p + 2) - nI 2 = nI p := pk_sub (by omega)
  have ej := e_joined (a := m (hb + 8) p) (b := m (hb + 8) (p + 1)) (m := m) hb2
  unfold f_H_workOut
  simp only [lits, negs]
  simp (disch := omega) only [↓jl4_nI l6, htok, hc, nqF, nqT, eqF, eq_self, ↓reduceIte, jgd_ok, jgd_tk, jlt_e, hP, leF, leT, ltT, ltF, e1, e2, ↓jld_nI l8, ej, jbd_s, ↓jst_nI l8]
