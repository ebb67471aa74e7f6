/-! questions about days and copies -/
theorem q_copy {N C : Nat} {m : jMem} (r : Rel N C m) (x y : Int32) : Qst (f_C_copy x y) (f_M_copy x y) m := by
  obtain ⟨hC, c1, c2, ⟨r1, r2, r3, r4, r5⟩, -⟩ := r.2.2.2.2.2.2.1
  have c3 : jup m 109 0 (nI 0) 109 44 = nI C := by rw [jup_ok (by omega)]; exact c2
  rcases ixN x (n := C) (by omega) with hx | ⟨a, ha, rfl⟩
  · refine ⟨nM, m, jup m 109 0 (nI 0), ?_, ?_⟩
    · have e : f_P_isCopy x m = some (nI 0, m) := by
        unfold f_P_isCopy
        simp only [lits, c1]
        rcases hx with h | h
        · rw [if_pos h]
        · rw [if_pos h]
          split <;> rfl
      unfold f_C_copy
      simp (disch := omega) only [lits, negs, nI_add, nn1, leT, leF, ltT, ltF, eqF, mF1, mF2, mF3, mF4, mF5, mF6, mTT, eq_self, Nat.reduceEqDiff, ↓reduceIte, jbd_s, jpu_e, tI0, tI1, jgd_tI, jgd_bb, tfF, ftF, jup_at, jup_oc, jup_ok, e]
    · unfold f_M_copy
      simp (disch := omega) only [lits, negs, nI_add, nn1, leT, leF, ltT, ltF, eqF, mF1, mF2, mF3, mF4, mF5, mF6, mTT, eq_self, Nat.reduceEqDiff, ↓reduceIte, jbd_s, jpu_e, tI0, tI1, jgd_tI, jgd_bb, tfF, ftF, jup_at, jup_oc, jup_ok, c2]
      rcases hx with h | h
      · rw [if_pos h]
      · rw [if_pos h]
        split <;> rfl
  · have e : f_P_isCopy (nI a) m = some (nI 1, m) := by
      unfold f_P_isCopy
      simp (disch := omega) only [lits, negs, nI_add, nn1, leT, leF, ltT, ltF, eqF, mF1, mF2, mF3, mF4, mF5, mF6, mTT, eq_self, Nat.reduceEqDiff, ↓reduceIte, jbd_s, jpu_e, tI0, tI1, jgd_tI, jgd_bb, tfF, ftF, jup_at, jup_oc, jup_ok, c1]
    rcases ixN y (n := 4) (by omega) with hy | ⟨b, hb, rfl⟩
    · have hz3 : y < nI 0 ∨ ¬ y ≤ nI 3 := by
        rcases hy with h | h
        · exact Or.inl h
        · refine Or.inr fun q => ?_
          rw [Int32.le_iff_toInt_le, nI_toInt (by omega)] at h q
          omega
      have hne : ∀ k, k < 4 → ¬ y = nI k := fun k hk q => by
        subst q
        rcases hy with h | h
        · exact nI_pos (by omega) h
        · exact nI_ge hk (by omega) h
      refine ⟨nM, m, jup m 109 0 (nI 0), ?_, ?_⟩
      · unfold f_C_copy
        simp (disch := omega) only [lits, negs, nI_add, nn1, leT, leF, ltT, ltF, eqF, mF1, mF2, mF3, mF4, mF5, mF6, mTT, eq_self, Nat.reduceEqDiff, ↓reduceIte, jbd_s, jpu_e, tI0, tI1, jgd_tI, jgd_bb, tfF, ftF, jup_at, jup_oc, jup_ok, e, hne 0 (by omega), hne 1 (by omega), hne 2 (by omega), hne 3 (by omega)]
      · unfold f_M_copy
        simp (disch := omega) only [lits, negs, nI_add, nn1, leT, leF, ltT, ltF, eqF, mF1, mF2, mF3, mF4, mF5, mF6, mTT, eq_self, Nat.reduceEqDiff, ↓reduceIte, jbd_s, jpu_e, tI0, tI1, jgd_tI, jgd_bb, tfF, ftF, jup_at, jup_oc, jup_ok, c2]
        rcases hz3 with h | h
        · rw [if_pos h]
        · by_cases q : y < nI 0
          · rw [if_pos q]
          · rw [if_neg q, if_neg h]
    · rcases (by omega : b = 0 ∨ b = 1 ∨ b = 2 ∨ b = 3) with rfl | rfl | rfl | rfl
      · refine ⟨m 60 a, m, jup m 109 0 (nI 0), ?_, ?_⟩
        · unfold f_C_copy
          simp (disch := omega) only [lits, negs, nI_add, nn1, leT, leF, ltT, ltF, eqF, mF1, mF2, mF3, mF4, mF5, mF6, mTT, eq_self, Nat.reduceEqDiff, ↓reduceIte, jbd_s, jpu_e, tI0, tI1, jgd_tI, jgd_bb, tfF, ftF, jup_at, jup_oc, jup_ok, e, ld_60]
        · unfold f_M_copy
          simp (disch := omega) only [lits, negs, nI_add, nn1, leT, leF, ltT, ltF, eqF, mF1, mF2, mF3, mF4, mF5, mF6, mTT, eq_self, Nat.reduceEqDiff, ↓reduceIte, jbd_s, jpu_e, tI0, tI1, jgd_tI, jgd_bb, tfF, ftF, jup_at, jup_oc, jup_ok, c2, ld_130, r1]
      · refine ⟨m 62 a, m, jup m 109 0 (nI 0), ?_, ?_⟩
        · unfold f_C_copy
          simp (disch := omega) only [lits, negs, nI_add, nn1, leT, leF, ltT, ltF, eqF, mF1, mF2, mF3, mF4, mF5, mF6, mTT, eq_self, Nat.reduceEqDiff, ↓reduceIte, jbd_s, jpu_e, tI0, tI1, jgd_tI, jgd_bb, tfF, ftF, jup_at, jup_oc, jup_ok, e, ld_62]
        · unfold f_M_copy
          simp (disch := omega) only [lits, negs, nI_add, nn1, leT, leF, ltT, ltF, eqF, mF1, mF2, mF3, mF4, mF5, mF6, mTT, eq_self, Nat.reduceEqDiff, ↓reduceIte, jbd_s, jpu_e, tI0, tI1, jgd_tI, jgd_bb, tfF, ftF, jup_at, jup_oc, jup_ok, c2, ld_132, r3]
      · refine ⟨m 63 a, m, jup m 109 0 (nI 0), ?_, ?_⟩
        · unfold f_C_copy
          simp (disch := omega) only [lits, negs, nI_add, nn1, leT, leF, ltT, ltF, eqF, mF1, mF2, mF3, mF4, mF5, mF6, mTT, eq_self, Nat.reduceEqDiff, ↓reduceIte, jbd_s, jpu_e, tI0, tI1, jgd_tI, jgd_bb, tfF, ftF, jup_at, jup_oc, jup_ok, e, ld_63]
        · unfold f_M_copy
          simp (disch := omega) only [lits, negs, nI_add, nn1, leT, leF, ltT, ltF, eqF, mF1, mF2, mF3, mF4, mF5, mF6, mTT, eq_self, Nat.reduceEqDiff, ↓reduceIte, jbd_s, jpu_e, tI0, tI1, jgd_tI, jgd_bb, tfF, ftF, jup_at, jup_oc, jup_ok, c2, ld_133, r4]
      · refine ⟨m 64 a, m, jup m 109 0 (nI 0), ?_, ?_⟩
        · unfold f_C_copy
          simp (disch := omega) only [lits, negs, nI_add, nn1, leT, leF, ltT, ltF, eqF, mF1, mF2, mF3, mF4, mF5, mF6, mTT, eq_self, Nat.reduceEqDiff, ↓reduceIte, jbd_s, jpu_e, tI0, tI1, jgd_tI, jgd_bb, tfF, ftF, jup_at, jup_oc, jup_ok, e, ld_64]
        · unfold f_M_copy
          simp (disch := omega) only [lits, negs, nI_add, nn1, leT, leF, ltT, ltF, eqF, mF1, mF2, mF3, mF4, mF5, mF6, mTT, eq_self, Nat.reduceEqDiff, ↓reduceIte, jbd_s, jpu_e, tI0, tI1, jgd_tI, jgd_bb, tfF, ftF, jup_at, jup_oc, jup_ok, c2, ld_134, r5]
theorem q_desk {N C : Nat} {m : jMem} (r : Rel N C m) (x y : Int32) : Qst (f_C_desk x y) (f_M_desk x y) m := by
  have rl := r.1
  have h30 := rl.1
  rcases ixW x with hx | ⟨w, hw, rfl⟩
  · refine ⟨nM, m, jup m 109 0 (nI 0), ?_, ?_⟩
    · unfold f_C_desk
      simp (disch := omega) only [lits, negs, nI_add, nn1, leT, leF, ltT, ltF, eqF, mF1, mF2, mF3, mF4, mF5, mF6, mTT, eq_self, Nat.reduceEqDiff, ↓reduceIte, jbd_s, jpu_e, tI0, tI1, jgd_tI, jgd_bb, tfF, ftF, jup_at, jup_oc, jup_ok, e_isWriter_no hx]
    · unfold f_M_desk
      simp (disch := omega) only [lits, negs, nI_add, nn1, leT, leF, ltT, ltF, eqF, mF1, mF2, mF3, mF4, mF5, mF6, mTT, eq_self, Nat.reduceEqDiff, ↓reduceIte, jbd_s, jpu_e, tI0, tI1, jgd_tI, jgd_bb, tfF, ftF, jup_at, jup_oc, jup_ok, e_MisWriter_no hx]
  · obtain ⟨c, hc, c1, c2, c3, -⟩ := r.2.2.2.2.2.2.2.2.1 w hw
    have c4 : jup m 109 0 (nI 0) 138 w = nI c := by rw [jup_oc (by omega)]; exact c2
    rcases ixN y (n := c) (by omega) with hy | ⟨k, hk, rfl⟩
    · refine ⟨nM, m, jup m 109 0 (nI 0), ?_, ?_⟩
      · unfold f_C_desk
        simp (disch := omega) only [lits, negs, nI_add, nn1, leT, leF, ltT, ltF, eqF, mF1, mF2, mF3, mF4, mF5, mF6, mTT, eq_self, Nat.reduceEqDiff, ↓reduceIte, jbd_s, jpu_e, tI0, tI1, jgd_tI, jgd_bb, tfF, ftF, jup_at, jup_oc, jup_ok, e_isWriter, ld_73, c1]
        rcases hy with h | h
        · rw [if_pos h]
        · rw [if_neg (Int32.not_lt.mpr h)]
          split <;> rfl
      · unfold f_M_desk
        simp (disch := omega) only [lits, negs, nI_add, nn1, leT, leF, ltT, ltF, eqF, mF1, mF2, mF3, mF4, mF5, mF6, mTT, eq_self, Nat.reduceEqDiff, ↓reduceIte, jbd_s, jpu_e, tI0, tI1, jgd_tI, jgd_bb, tfF, ftF, jup_at, jup_oc, jup_ok, e_MisWriter, ld_138, c2]
        rcases hy with h | h
        · rw [if_pos h]
        · rw [if_neg (Int32.not_lt.mpr h)]
          split <;> rfl
    · refine ⟨m (67 + w) k, m, jup m 109 0 (nI 0), ?_, ?_⟩
      · unfold f_C_desk f_D_letterAt
        simp (disch := omega) only [lits, negs, nI_add, nn1, leT, leF, ltT, ltF, eqF, mF1, mF2, mF3, mF4, mF5, mF6, mTT, eq_self, Nat.reduceEqDiff, ↓reduceIte, jbd_s, jpu_e, tI0, tI1, jgd_tI, jgd_bb, tfF, ftF, jup_at, jup_oc, jup_ok, e_isWriter, ld_73, c1, l3_66, ldr_66]
      · unfold f_M_desk
        simp (disch := omega) only [lits, negs, nI_add, nn1, leT, leF, ltT, ltF, eqF, mF1, mF2, mF3, mF4, mF5, mF6, mTT, eq_self, Nat.reduceEqDiff, ↓reduceIte, jbd_s, jpu_e, tI0, tI1, jgd_tI, jgd_bb, tfF, ftF, jup_at, jup_oc, jup_ok, e_MisWriter, ld_138, c2, pk_mul, ld_137]
        rw [(c3 k hk).1]
/-- the day on which a writer read or wrote a letter -/
def dayS (m : jMem) (w l : Nat) : Int32 := if m 30 l = nI w then m 31 l else if bt (m 75 w) l then m (77 + w) l else nM
theorem e_dayKnown {w l : Nat} {m : jMem} (hw : w < 6) (hl : l < 30) : f_C_dayKnown (nI w) (nI l) m = some (dayS m w l, m) := by
  unfold f_C_dayKnown dayS
  by_cases h1 : m 30 l = nI w
  · simp (disch := omega) only [lits, negs, nI_add, nn1, leT, leF, ltT, ltF, eqF, mF1, mF2, mF3, mF4, mF5, mF6, mTT, eq_self, Nat.reduceEqDiff, ↓reduceIte, jbd_s, jpu_e, tI0, tI1, jgd_tI, jgd_bb, tfF, ftF, jup_at, jup_oc, jup_ok, ld_30, h1, ld_31]
  · simp (disch := omega) only [lits, negs, nI_add, nn1, leT, leF, ltT, ltF, eqF, mF1, mF2, mF3, mF4, mF5, mF6, mTT, eq_self, Nat.reduceEqDiff, ↓reduceIte, jbd_s, jpu_e, tI0, tI1, jgd_tI, jgd_bb, tfF, ftF, jup_at, jup_oc, jup_ok, ld_30, ld_75, e_isIn]
    rw [if_neg h1, if_neg h1]
    cases bt (m 75 w) l
    · rfl
    · simp (disch := omega) only [lits, negs, nI_add, nn1, leT, leF, ltT, ltF, eqF, mF1, mF2, mF3, mF4, mF5, mF6, mTT, eq_self, Nat.reduceEqDiff, ↓reduceIte, jbd_s, jpu_e, tI0, tI1, jgd_tI, jgd_bb, tfF, ftF, jup_at, jup_oc, jup_ok, l3_76, ldr_76]
theorem dayS_or {N : Nat} {m : jMem} (rl : RL N m) (rk : RK N m) {w l : Nat} (hw : w < 6) (hl : l < N) : (dayS m w l = nM ∧ bt (m 135 w) l = false) ∨ ∃ d, d ≤ 999 ∧ dayS m w l = nI d ∧ bt (m 135 w) l = true := by
  obtain ⟨k1, k2, k3⟩ := rk.1 w hw
  obtain ⟨-, ⟨d, hd, ed⟩, -⟩ := rl.2.2.2.2.1 l hl
  have hby := rl.2.2.2.2.2.1 w hw l
  unfold dayS
  rw [k1, b_or]
  by_cases h1 : m 30 l = nI w
  · rw [if_pos h1]
    exact Or.inr ⟨d, hd, ed, by rw [hby.mpr ⟨hl, h1⟩]; rfl⟩
  · rw [if_neg h1]
    have h2 : bt (m 42 w) l = false := by
      cases q : bt (m 42 w) l
      · rfl
      · exact absurd (hby.mp q).2 h1
    cases q : bt (m 75 w) l
    · exact Or.inl ⟨rfl, by rw [h2]; rfl⟩
    · obtain ⟨d2, hd2, e2⟩ := (k3 l hl).2 q
      exact Or.inr ⟨d2, hd2, e2, by rw [h2]; rfl⟩
theorem RK_day {N : Nat} {m : jMem} (rk : RK N m) {w l : Nat} (hw : w < 6) (hl : l < N) : m 136 (30 * w + l) = dayS m w l := ((rk.1 w hw).2.2 l hl).1
def knP (m : jMem) (l : Nat) (da : Int32) (w : Nat) : Bool := !decide (dayS m w l = nM) && !decide (da < dayS m w l)
theorem lp_whoKnew {l : Nat} {da : Int32} {k : Int32 → jMem → Option (Int32 × jMem)} {m : jMem} (hl : l < 30) : ∀ (d n i : Nat), i + d = 6 → d < n → lp_C_whoKnewBy_5 (nI l) da k n (setS (knP m l da) i) (nI i) m = k (setS (knP m l da) 6) m := by
  intro d
  induction d with
  | zero =>
    intro n i hid hdn
    obtain ⟨n, rfl⟩ := ex_succ hdn
    rw [show i = 6 by omega]
    unfold lp_C_whoKnewBy_5
    simp (disch := omega) only [lits, negs, nI_add, nn1, leT, leF, ltT, ltF, eqF, mF1, mF2, mF3, mF4, mF5, mF6, mTT, eq_self, Nat.reduceEqDiff, ↓reduceIte, jbd_s, jpu_e, tI0, tI1, jgd_tI, jgd_bb, tfF, ftF, jup_at, jup_oc, jup_ok]
  | succ d ih =>
    intro n i hid hdn
    obtain ⟨n, rfl⟩ := ex_succ hdn
    have e := ih n (i + 1) (by omega) (by omega)
    unfold lp_C_whoKnewBy_5
    rw [setS_succ] at e
    by_cases h1 : dayS m i l = nM
    · have hp : knP m l da i = false := by unfold knP; rw [decide_eq_true h1]; rfl
      rw [hp, if_neg (by decide)] at e
      simp (disch := omega) only [lits, negs, nI_add, nn1, leT, leF, ltT, ltF, eqF, mF1, mF2, mF3, mF4, mF5, mF6, mTT, eq_self, Nat.reduceEqDiff, ↓reduceIte, jbd_s, jpu_e, tI0, tI1, jgd_tI, jgd_bb, tfF, ftF, jup_at, jup_oc, jup_ok, e_dayKnown, h1]
      exact e
    · by_cases h2 : da < dayS m i l
      · have hp : knP m l da i = false := by unfold knP; rw [decide_eq_true h2, Bool.not_true, Bool.and_false]
        rw [hp, if_neg (by decide)] at e
        simp (disch := omega) only [lits, negs, nI_add, nn1, leT, leF, ltT, ltF, eqF, mF1, mF2, mF3, mF4, mF5, mF6, mTT, eq_self, Nat.reduceEqDiff, ↓reduceIte, jbd_s, jpu_e, tI0, tI1, jgd_tI, jgd_bb, tfF, ftF, jup_at, jup_oc, jup_ok, e_dayKnown]
        rw [if_neg h1, if_pos h2]
        exact e
      · have hp : knP m l da i = true := by unfold knP; rw [decide_eq_false h1, decide_eq_false h2]; rfl
        rw [hp, if_pos rfl] at e
        simp (disch := omega) only [lits, negs, nI_add, nn1, leT, leF, ltT, ltF, eqF, mF1, mF2, mF3, mF4, mF5, mF6, mTT, eq_self, Nat.reduceEqDiff, ↓reduceIte, jbd_s, jpu_e, tI0, tI1, jgd_tI, jgd_bb, tfF, ftF, jup_at, jup_oc, jup_ok, e_dayKnown]
        rw [if_neg h1, if_neg h2]
        simp (disch := omega) only [lits, negs, nI_add, nn1, leT, leF, ltT, ltF, eqF, mF1, mF2, mF3, mF4, mF5, mF6, mTT, eq_self, Nat.reduceEqDiff, ↓reduceIte, jbd_s, jpu_e, tI0, tI1, jgd_tI, jgd_bb, tfF, ftF, jup_at, jup_oc, jup_ok, e_bit]
        exact e
theorem e_whoKnew {l : Nat} {da : Int32} {m : jMem} (hl : l < 30) : f_C_whoKnewBy (nI l) da m = some (setS (knP m l da) 6, m) := by
  unfold f_C_whoKnewBy
  simp only [lits]
  exact lp_whoKnew hl 6 5000 0 (by omega) (by omega)
theorem lp_Mhas {l : Nat} {k : Int32 → jMem → Option (Int32 × jMem)} {m : jMem} (hl : l < 30) : ∀ (d n i : Nat), i + d = 6 → d < n → lp_M_has_19 (nI l) k n (setS (fun w => bt (m 135 w) l) i) (nI i) m = k (setS (fun w => bt (m 135 w) l) 6) m := by
  intro d
  induction d with
  | zero =>
    intro n i hid hdn
    obtain ⟨n, rfl⟩ := ex_succ hdn
    rw [show i = 6 by omega]
    unfold lp_M_has_19
    simp (disch := omega) only [lits, negs, nI_add, nn1, leT, leF, ltT, ltF, eqF, mF1, mF2, mF3, mF4, mF5, mF6, mTT, eq_self, Nat.reduceEqDiff, ↓reduceIte, jbd_s, jpu_e, tI0, tI1, jgd_tI, jgd_bb, tfF, ftF, jup_at, jup_oc, jup_ok]
  | succ d ih =>
    intro n i hid hdn
    obtain ⟨n, rfl⟩ := ex_succ hdn
    have e := ih n (i + 1) (by omega) (by omega)
    unfold lp_M_has_19
    rw [setS_succ] at e
    have z0 : nI 0 <<< (nI i &&& nI 31) = nI 0 := (by decide +kernel : ∀ i, i < 6 → nI 0 <<< (nI i &&& nI 31) = nI 0) i (by omega)
    simp (disch := omega) only [lits, negs, nI_add, nn1, leT, leF, ltT, ltF, eqF, mF1, mF2, mF3, mF4, mF5, mF6, mTT, eq_self, Nat.reduceEqDiff, ↓reduceIte, jbd_s, jpu_e, tI0, tI1, jgd_tI, jgd_bb, tfF, ftF, jup_at, jup_oc, jup_ok, ld_135, bitv]
    cases hp : bt (m 135 i) l
    · rw [hp, if_neg (by decide)] at e
      rw [tI_f, z0, or_n0]
      exact e
    · rw [hp, if_pos rfl] at e
      rw [tI_t, sb_e]
      exact e
theorem q_has {N C : Nat} {m : jMem} (r : Rel N C m) (x : Int32) : Qst (f_C_has x) (f_M_has x) m := by
  have rl := r.1
  have h30 := rl.1
  have hN := rl.2.1
  have rl1 := RL_scr (thr_scr m (nI 0)) rl
  have hM := rl1.2.2.1
  have rk := r.2.2.2.2.2.2.2.1
  rcases ixN x (n := N) (by omega) with hx | ⟨a, ha, rfl⟩
  · refine ⟨nM, m, jup m 109 0 (nI 0), ?_, ?_⟩
    · unfold f_C_has
      simp (disch := omega) only [lits, negs, nI_add, nn1, leT, leF, ltT, ltF, eqF, mF1, mF2, mF3, mF4, mF5, mF6, mTT, eq_self, Nat.reduceEqDiff, ↓reduceIte, jbd_s, jpu_e, tI0, tI1, jgd_tI, jgd_bb, tfF, ftF, jup_at, jup_oc, jup_ok, e_isLetter_no hN hx]
    · unfold f_M_has
      simp (disch := omega) only [lits, negs, nI_add, nn1, leT, leF, ltT, ltF, eqF, mF1, mF2, mF3, mF4, mF5, mF6, mTT, eq_self, Nat.reduceEqDiff, ↓reduceIte, jbd_s, jpu_e, tI0, tI1, jgd_tI, jgd_bb, tfF, ftF, jup_at, jup_oc, jup_ok, e_MisLetter_no hM hx]
  · refine ⟨setS (fun w => bt (m 135 w) a) 6, m, jup m 109 0 (nI 0), ?_, ?_⟩
    · have e : setS (knP m a (nI 999)) 6 = setS (fun w => bt (m 135 w) a) 6 := by
        apply b_ext
        intro j hj
        rw [b_setS hj (by omega), b_setS hj (by omega)]
        by_cases q : j < 6
        · rw [decide_eq_true q, Bool.true_and, Bool.true_and]
          unfold knP
          rcases dayS_or rl rk q ha with ⟨h1, h2⟩ | ⟨d, hd, h1, h2⟩
          · rw [h1, h2]; rfl
          · rw [h1, h2, decide_eq_false (by rw [mF1 (by omega)]; exact id), decide_eq_false (nI_nlt hd (by omega))]; rfl
        · rw [decide_eq_false q]; rfl
      unfold f_C_has
      simp (disch := omega) only [lits, negs, nI_add, nn1, leT, leF, ltT, ltF, eqF, mF1, mF2, mF3, mF4, mF5, mF6, mTT, eq_self, Nat.reduceEqDiff, ↓reduceIte, jbd_s, jpu_e, tI0, tI1, jgd_tI, jgd_bb, tfF, ftF, jup_at, jup_oc, jup_ok, e_isLetter hN h30, e_whoKnew, e]
    · have e := lp_Mhas (l := a) (k := fun w6 m5 => some (w6, m5)) (m := jup m 109 0 (nI 0)) (by omega) 6 5000 0 (by omega) (by omega)
      rw [jup_oc (by omega)] at e
      unfold f_M_has
      simp (disch := omega) only [lits, negs, nI_add, nn1, leT, leF, ltT, ltF, eqF, mF1, mF2, mF3, mF4, mF5, mF6, mTT, eq_self, Nat.reduceEqDiff, ↓reduceIte, jbd_s, jpu_e, tI0, tI1, jgd_tI, jgd_bb, tfF, ftF, jup_at, jup_oc, jup_ok, e_MisLetter hM h30]
      exact e
theorem q_readOn {N C : Nat} {m : jMem} (r : Rel N C m) (x y : Int32) : Qst (f_C_readOn x y) (f_M_readOn x y) m := by
  have rl := r.1
  have h30 := rl.1
  have hN := rl.2.1
  have rl1 := RL_scr (thr_scr m (nI 0)) rl
  have hM := rl1.2.2.1
  have rk := r.2.2.2.2.2.2.2.1
  rcases ixW x with hx | ⟨w, hw, rfl⟩
  · refine ⟨nM, m, jup m 109 0 (nI 0), ?_, ?_⟩
    · unfold f_C_readOn
      simp (disch := omega) only [lits, negs, nI_add, nn1, leT, leF, ltT, ltF, eqF, mF1, mF2, mF3, mF4, mF5, mF6, mTT, eq_self, Nat.reduceEqDiff, ↓reduceIte, jbd_s, jpu_e, tI0, tI1, jgd_tI, jgd_bb, tfF, ftF, jup_at, jup_oc, jup_ok, e_isWriter_no hx]
    · unfold f_M_readOn
      simp (disch := omega) only [lits, negs, nI_add, nn1, leT, leF, ltT, ltF, eqF, mF1, mF2, mF3, mF4, mF5, mF6, mTT, eq_self, Nat.reduceEqDiff, ↓reduceIte, jbd_s, jpu_e, tI0, tI1, jgd_tI, jgd_bb, tfF, ftF, jup_at, jup_oc, jup_ok, e_MisWriter_no hx]
  · rcases ixN y (n := N) (by omega) with hy | ⟨a, ha, rfl⟩
    · refine ⟨nM, m, jup m 109 0 (nI 0), ?_, ?_⟩
      · unfold f_C_readOn
        simp (disch := omega) only [lits, negs, nI_add, nn1, leT, leF, ltT, ltF, eqF, mF1, mF2, mF3, mF4, mF5, mF6, mTT, eq_self, Nat.reduceEqDiff, ↓reduceIte, jbd_s, jpu_e, tI0, tI1, jgd_tI, jgd_bb, tfF, ftF, jup_at, jup_oc, jup_ok, e_isWriter, e_isLetter_no hN hy]
      · unfold f_M_readOn
        simp (disch := omega) only [lits, negs, nI_add, nn1, leT, leF, ltT, ltF, eqF, mF1, mF2, mF3, mF4, mF5, mF6, mTT, eq_self, Nat.reduceEqDiff, ↓reduceIte, jbd_s, jpu_e, tI0, tI1, jgd_tI, jgd_bb, tfF, ftF, jup_at, jup_oc, jup_ok, e_MisWriter, e_MisLetter_no hM hy]
    · refine ⟨dayS m w a, m, jup m 109 0 (nI 0), ?_, ?_⟩
      · unfold f_C_readOn
        simp (disch := omega) only [lits, negs, nI_add, nn1, leT, leF, ltT, ltF, eqF, mF1, mF2, mF3, mF4, mF5, mF6, mTT, eq_self, Nat.reduceEqDiff, ↓reduceIte, jbd_s, jpu_e, tI0, tI1, jgd_tI, jgd_bb, tfF, ftF, jup_at, jup_oc, jup_ok, e_isWriter, e_isLetter hN h30, e_dayKnown]
      · unfold f_M_readOn
        simp (disch := omega) only [lits, negs, nI_add, nn1, leT, leF, ltT, ltF, eqF, mF1, mF2, mF3, mF4, mF5, mF6, mTT, eq_self, Nat.reduceEqDiff, ↓reduceIte, jbd_s, jpu_e, tI0, tI1, jgd_tI, jgd_bb, tfF, ftF, jup_at, jup_oc, jup_ok, e_MisWriter, e_MisLetter hM h30, pk_mul, ld_136, RK_day rk]
theorem lp_Mspread {l : Nat} {da : Int32} {f : Nat → Int32} {k : Int32 → jMem → Option (Int32 × jMem)} {m : jMem} (hl : l < 30) (hf : ∀ w, w < 6 → m 136 (30 * w + l) = f w) : ∀ (d n i : Nat), i + d = 6 → d < n → lp_M_spread_27 (nI l) da k n (setS (fun w => !decide (f w = nM) && !decide (da < f w)) i) (nI i) m = k (setS (fun w => !decide (f w = nM) && !decide (da < f w)) 6) m := by
  intro d
  induction d with
  | zero =>
    intro n i hid hdn
    obtain ⟨n, rfl⟩ := ex_succ hdn
    rw [show i = 6 by omega]
    unfold lp_M_spread_27
    simp (disch := omega) only [lits, negs, nI_add, nn1, leT, leF, ltT, ltF, eqF, mF1, mF2, mF3, mF4, mF5, mF6, mTT, eq_self, Nat.reduceEqDiff, ↓reduceIte, jbd_s, jpu_e, tI0, tI1, jgd_tI, jgd_bb, tfF, ftF, jup_at, jup_oc, jup_ok]
  | succ d ih =>
    intro n i hid hdn
    obtain ⟨n, rfl⟩ := ex_succ hdn
    have e := ih n (i + 1) (by omega) (by omega)
    unfold lp_M_spread_27
    rw [setS_succ] at e
    have hfi := hf i (by omega)
    by_cases h1 : f i = nM
    · rw [decide_eq_true h1, Bool.not_true, Bool.false_and, if_neg (by decide)] at e
      simp (disch := omega) only [lits, negs, nI_add, nn1, leT, leF, ltT, ltF, eqF, mF1, mF2, mF3, mF4, mF5, mF6, mTT, eq_self, Nat.reduceEqDiff, ↓reduceIte, jbd_s, jpu_e, tI0, tI1, jgd_tI, jgd_bb, tfF, ftF, jup_at, jup_oc, jup_ok, pk_mul, ld_136, hfi, h1]
      exact e
    · by_cases h2 : da < f i
      · rw [decide_eq_true h2, Bool.not_true, Bool.and_false, if_neg (by decide)] at e
        simp (disch := omega) only [lits, negs, nI_add, nn1, leT, leF, ltT, ltF, eqF, mF1, mF2, mF3, mF4, mF5, mF6, mTT, eq_self, Nat.reduceEqDiff, ↓reduceIte, jbd_s, jpu_e, tI0, tI1, jgd_tI, jgd_bb, tfF, ftF, jup_at, jup_oc, jup_ok, pk_mul, ld_136, hfi]
        rw [if_neg h1, if_pos h2]
        exact e
      · rw [decide_eq_false h1, decide_eq_false h2, Bool.not_false, Bool.and_true, if_pos rfl] at e
        simp (disch := omega) only [lits, negs, nI_add, nn1, leT, leF, ltT, ltF, eqF, mF1, mF2, mF3, mF4, mF5, mF6, mTT, eq_self, Nat.reduceEqDiff, ↓reduceIte, jbd_s, jpu_e, tI0, tI1, jgd_tI, jgd_bb, tfF, ftF, jup_at, jup_oc, jup_ok, pk_mul, ld_136, hfi, sb_e]
        rw [if_neg h1, if_neg h2]
        exact e
theorem q_spread {N C : Nat} {m : jMem} (r : Rel N C m) (x y : Int32) : Qst (f_C_spread x y) (f_M_spread x y) m := by
  have rl := r.1
  have h30 := rl.1
  have hN := rl.2.1
  have rl1 := RL_scr (thr_scr m (nI 0)) rl
  have hM := rl1.2.2.1
  have rk := r.2.2.2.2.2.2.2.1
  rcases ixN x (n := N) (by omega) with hx | ⟨a, ha, rfl⟩
  · refine ⟨nM, m, jup m 109 0 (nI 0), ?_, ?_⟩
    · unfold f_C_spread
      simp (disch := omega) only [lits, negs, nI_add, nn1, leT, leF, ltT, ltF, eqF, mF1, mF2, mF3, mF4, mF5, mF6, mTT, eq_self, Nat.reduceEqDiff, ↓reduceIte, jbd_s, jpu_e, tI0, tI1, jgd_tI, jgd_bb, tfF, ftF, jup_at, jup_oc, jup_ok, e_isLetter_no hN hx]
    · unfold f_M_spread
      simp (disch := omega) only [lits, negs, nI_add, nn1, leT, leF, ltT, ltF, eqF, mF1, mF2, mF3, mF4, mF5, mF6, mTT, eq_self, Nat.reduceEqDiff, ↓reduceIte, jbd_s, jpu_e, tI0, tI1, jgd_tI, jgd_bb, tfF, ftF, jup_at, jup_oc, jup_ok, e_MisLetter_no hM hx]
  · rcases ixN y (n := 1000) (by omega) with hy | ⟨d, hd, rfl⟩
    · have hz3 : y < nI 0 ∨ nI 999 < y := by
        rcases hy with h | h
        · exact Or.inl h
        · exact Or.inr (nI_lt_of (by omega) h)
      refine ⟨nM, m, jup m 109 0 (nI 0), ?_, ?_⟩
      · unfold f_C_spread
        simp (disch := omega) only [lits, negs, nI_add, nn1, leT, leF, ltT, ltF, eqF, mF1, mF2, mF3, mF4, mF5, mF6, mTT, eq_self, Nat.reduceEqDiff, ↓reduceIte, jbd_s, jpu_e, tI0, tI1, jgd_tI, jgd_bb, tfF, ftF, jup_at, jup_oc, jup_ok, e_isLetter hN h30]
        rcases hz3 with h | h
        · rw [if_pos h]
        · rw [if_neg (Int32.not_le.mpr h)]
          split <;> rfl
      · have e : f_M_isDay y (jup m 109 0 (nI 0)) = some (nI 0, jup m 109 0 (nI 0)) := by
          unfold f_M_isDay
          simp only [lits]
          rcases hz3 with h | h
          · rw [if_pos h]
          · rw [if_pos h]
            split <;> rfl
        unfold f_M_spread
        simp (disch := omega) only [lits, negs, nI_add, nn1, leT, leF, ltT, ltF, eqF, mF1, mF2, mF3, mF4, mF5, mF6, mTT, eq_self, Nat.reduceEqDiff, ↓reduceIte, jbd_s, jpu_e, tI0, tI1, jgd_tI, jgd_bb, tfF, ftF, jup_at, jup_oc, jup_ok, e_MisLetter hM h30, e]
    · refine ⟨setS (knP m a (nI d)) 6, m, jup m 109 0 (nI 0), ?_, ?_⟩
      · unfold f_C_spread
        simp (disch := omega) only [lits, negs, nI_add, nn1, leT, leF, ltT, ltF, eqF, mF1, mF2, mF3, mF4, mF5, mF6, mTT, eq_self, Nat.reduceEqDiff, ↓reduceIte, jbd_s, jpu_e, tI0, tI1, jgd_tI, jgd_bb, tfF, ftF, jup_at, jup_oc, jup_ok, e_isLetter hN h30, e_whoKnew]
      · have e1 : f_M_isDay (nI d) (jup m 109 0 (nI 0)) = some (nI 1, jup m 109 0 (nI 0)) := by
          unfold f_M_isDay
          simp (disch := omega) only [lits, negs, nI_add, nn1, leT, leF, ltT, ltF, eqF, mF1, mF2, mF3, mF4, mF5, mF6, mTT, eq_self, Nat.reduceEqDiff, ↓reduceIte, jbd_s, jpu_e, tI0, tI1, jgd_tI, jgd_bb, tfF, ftF, jup_at, jup_oc, jup_ok]
        have e := lp_Mspread (l := a) (da := nI d) (f := fun w => dayS m w a) (k := fun w6 m5 => some (w6, m5)) (m := jup m 109 0 (nI 0)) (by omega) (fun w hw => by rw [jup_oc (by omega)]; exact RK_day rk hw ha) 6 5000 0 (by omega) (by omega)
        unfold f_M_spread
        simp (disch := omega) only [lits, negs, nI_add, nn1, leT, leF, ltT, ltF, eqF, mF1, mF2, mF3, mF4, mF5, mF6, mTT, eq_self, Nat.reduceEqDiff, ↓reduceIte, jbd_s, jpu_e, tI0, tI1, jgd_tI, jgd_bb, tfF, ftF, jup_at, jup_oc, jup_ok, e_MisLetter hM h30, e1]
        exact e
/-- the latest day, none if one wants -/
def allF (p : Nat → Bool) (f : Nat → Int32) : Nat → Int32 → Int32
  | 0, a => a
  | d + 1, a => if p (6 - (d + 1)) then (if f (6 - (d + 1)) = nM then nM else allF p f d (jmax a (f (6 - (d + 1))))) else allF p f d a
theorem allF_s (p : Nat → Bool) (f : Nat → Int32) (d : Nat) (a : Int32) : allF p f (d + 1) a = if p (6 - (d + 1)) then (if f (6 - (d + 1)) = nM then nM else allF p f d (jmax a (f (6 - (d + 1))))) else allF p f d a := rfl
theorem lp_all {l : Nat} {m : jMem} (hl : l < 30) : ∀ (d n i : Nat) (a : Int32), i + d = 6 → d < n → lp_C_all_17 (nI l) (fun m8 => some (nM, m8)) (fun w10 m9 => some (w10, m9)) n a (nI i) m = some (allF (bt (m 33 l)) (fun w => dayS m w l) d a, m) := by
  intro d
  induction d with
  | zero =>
    intro n i a h hn
    obtain ⟨n, rfl⟩ := ex_succ hn
    rw [show i = 6 by omega]
    unfold lp_C_all_17 allF
    simp (disch := omega) only [lits, negs, nI_add, nn1, leT, leF, ltT, ltF, eqF, mF1, mF2, mF3, mF4, mF5, mF6, mTT, eq_self, Nat.reduceEqDiff, ↓reduceIte, jbd_s, jpu_e, tI0, tI1, jgd_tI, jgd_bb, tfF, ftF, jup_at, jup_oc, jup_ok]
  | succ d ih =>
    intro n i a h hn
    obtain ⟨n, rfl⟩ := ex_succ hn
    have ei : 6 - (d + 1) = i := by omega
    rw [allF_s, ei]
    unfold lp_C_all_17
    cases hp : bt (m 33 l) i
    · simp (disch := omega) only [lits, negs, nI_add, nn1, leT, leF, ltT, ltF, eqF, mF1, mF2, mF3, mF4, mF5, mF6, mTT, eq_self, Nat.reduceEqDiff, ↓reduceIte, jbd_s, jpu_e, tI0, tI1, jgd_tI, jgd_bb, tfF, ftF, jup_at, jup_oc, jup_ok, ld_33, e_isIn, hp]
      exact ih n (i + 1) a (by omega) (by omega)
    · simp (disch := omega) only [lits, negs, nI_add, nn1, leT, leF, ltT, ltF, eqF, mF1, mF2, mF3, mF4, mF5, mF6, mTT, eq_self, Nat.reduceEqDiff, ↓reduceIte, jbd_s, jpu_e, tI0, tI1, jgd_tI, jgd_bb, tfF, ftF, jup_at, jup_oc, jup_ok, ld_33, e_isIn, hp, e_dayKnown]
      by_cases h1 : dayS m i l = nM
      · rw [if_pos h1, if_pos h1]
      · rw [if_neg h1, if_neg h1]
        exact ih n (i + 1) _ (by omega) (by omega)
theorem lp_Mall {l : Nat} {f : Nat → Int32} {m : jMem} (hl : l < 30) (hf : ∀ w, w < 6 → m 136 (30 * w + l) = f w) : ∀ (d n i : Nat) (a : Int32), i + d = 6 → d < n → lp_M_all_19 (nI l) (fun m8 => some (nM, m8)) (fun w10 m9 => some (w10, m9)) n a (nI i) m = some (allF (bt (m 124 l)) f d a, m) := by
  intro d
  induction d with
  | zero =>
    intro n i a h hn
    obtain ⟨n, rfl⟩ := ex_succ hn
    rw [show i = 6 by omega]
    unfold lp_M_all_19 allF
    simp (disch := omega) only [lits, negs, nI_add, nn1, leT, leF, ltT, ltF, eqF, mF1, mF2, mF3, mF4, mF5, mF6, mTT, eq_self, Nat.reduceEqDiff, ↓reduceIte, jbd_s, jpu_e, tI0, tI1, jgd_tI, jgd_bb, tfF, ftF, jup_at, jup_oc, jup_ok]
  | succ d ih =>
    intro n i a h hn
    obtain ⟨n, rfl⟩ := ex_succ hn
    have ei : 6 - (d + 1) = i := by omega
    have hfi := hf i (by omega)
    rw [allF_s, ei]
    unfold lp_M_all_19
    cases hp : bt (m 124 l) i
    · simp (disch := omega) only [lits, negs, nI_add, nn1, leT, leF, ltT, ltF, eqF, mF1, mF2, mF3, mF4, mF5, mF6, mTT, eq_self, Nat.reduceEqDiff, ↓reduceIte, jbd_s, jpu_e, tI0, tI1, jgd_tI, jgd_bb, tfF, ftF, jup_at, jup_oc, jup_ok, ld_124, bit0, hp]
      exact ih n (i + 1) a (by omega) (by omega)
    · simp (disch := omega) only [lits, negs, nI_add, nn1, leT, leF, ltT, ltF, eqF, mF1, mF2, mF3, mF4, mF5, mF6, mTT, eq_self, Nat.reduceEqDiff, ↓reduceIte, jbd_s, jpu_e, tI0, tI1, jgd_tI, jgd_bb, tfF, ftF, jup_at, jup_oc, jup_ok, ld_124, bit0, hp, pk_mul, ld_136, hfi]
      by_cases h1 : f i = nM
      · rw [if_pos h1, if_pos h1]
      · rw [if_neg h1, if_neg h1]
        exact ih n (i + 1) _ (by omega) (by omega)
theorem q_all {N C : Nat} {m : jMem} (r : Rel N C m) (x : Int32) : Qst (f_C_all x) (f_M_all x) m := by
  have rl := r.1
  have h30 := rl.1
  have hN := rl.2.1
  have rl1 := RL_scr (thr_scr m (nI 0)) rl
  have hM := rl1.2.2.1
  have rk := r.2.2.2.2.2.2.2.1
  have hto : m 124 = m 33 := rl.2.2.2.1.2.2.2.1
  rcases ixN x (n := N) (by omega) with hx | ⟨a, ha, rfl⟩
  · refine ⟨nM, m, jup m 109 0 (nI 0), ?_, ?_⟩
    · unfold f_C_all
      simp (disch := omega) only [lits, negs, nI_add, nn1, leT, leF, ltT, ltF, eqF, mF1, mF2, mF3, mF4, mF5, mF6, mTT, eq_self, Nat.reduceEqDiff, ↓reduceIte, jbd_s, jpu_e, tI0, tI1, jgd_tI, jgd_bb, tfF, ftF, jup_at, jup_oc, jup_ok, e_isLetter_no hN hx]
    · unfold f_M_all
      simp (disch := omega) only [lits, negs, nI_add, nn1, leT, leF, ltT, ltF, eqF, mF1, mF2, mF3, mF4, mF5, mF6, mTT, eq_self, Nat.reduceEqDiff, ↓reduceIte, jbd_s, jpu_e, tI0, tI1, jgd_tI, jgd_bb, tfF, ftF, jup_at, jup_oc, jup_ok, e_MisLetter_no hM hx]
  · refine ⟨allF (bt (m 33 a)) (fun w => dayS m w a) 6 (nI 0), m, jup m 109 0 (nI 0), ?_, ?_⟩
    · unfold f_C_all
      simp (disch := omega) only [lits, negs, nI_add, nn1, leT, leF, ltT, ltF, eqF, mF1, mF2, mF3, mF4, mF5, mF6, mTT, eq_self, Nat.reduceEqDiff, ↓reduceIte, jbd_s, jpu_e, tI0, tI1, jgd_tI, jgd_bb, tfF, ftF, jup_at, jup_oc, jup_ok, e_isLetter hN h30]
      exact lp_all (by omega) 6 5000 0 (nI 0) (by omega) (by omega)
    · have e := lp_Mall (l := a) (f := fun w => dayS m w a) (m := jup m 109 0 (nI 0)) (by omega) (fun w hw => by rw [jup_oc (by omega)]; exact RK_day rk hw ha) 6 5000 0 (nI 0) (by omega) (by omega)
      rw [jup_oc (by omega), hto] at e
      unfold f_M_all
      simp (disch := omega) only [lits, negs, nI_add, nn1, leT, leF, ltT, ltF, eqF, mF1, mF2, mF3, mF4, mF5, mF6, mTT, eq_self, Nat.reduceEqDiff, ↓reduceIte, jbd_s, jpu_e, tI0, tI1, jgd_tI, jgd_bb, tfF, ftF, jup_at, jup_oc, jup_ok, e_MisLetter hM h30]
      exact e
