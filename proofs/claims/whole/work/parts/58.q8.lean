/-! forged, forgers: the questions -/
theorem nI_lt_of {d : Nat} {y : Int32} (hd : d < 100000) (h : nI (d + 1) ≤ y) : nI d < y := by
  rw [Int32.le_iff_toInt_le, nI_toInt (by omega)] at h
  rw [Int32.lt_iff_toInt_lt, nI_toInt (by omega)]
  omega
theorem RW_WL {m : jMem} {W : Nat → Nat → Nat} (hW : (∀ a, a < 6 → ∀ b, b < 6 → W a b ≤ 30 ∧ m 120 (6 * a + b) = nI (W a b) ∧ m (47 + a) b = nI (W a b) ∧ m (54 + a) b = nI (fl3 W 6 a b)) ∧ ∀ a, a < 6 → W a a = 0) : WL (fl3 W 6) m := ⟨fun a ha b hb => (hW.1 a ha b hb).2.2.2, fun a ha => fl3_dg hW.2 6 a ha⟩
theorem q_forged {N C : Nat} {m : jMem} (r : Rel N C m) (x y z : Int32) : Qst (f_C_forged x y z) (f_M_forged x y z) m := by
  have rl := r.1
  have h30 := rl.1
  have rl1 := RL_scr (thr_scr m (nI 0)) rl
  have hM := rl1.2.2.1
  obtain ⟨d, hd, t1, t2⟩ := r.2.2.2.1
  obtain ⟨W, hW⟩ := r.2.2.2.2.1
  have hp : m 128 = m 37 := rl.2.2.2.1.2.2.2.2.2.2.2
  have hw : m 121 = m 30 := rl.2.2.2.1.1
  have hdd : m 122 = m 31 := rl.2.2.2.1.2.1
  have t3 : jup m 109 0 (nI 0) 109 31 = nI d := by rw [jup_ok (by omega)]; exact t2
  rcases ixW x with hx | ⟨w, hw6, rfl⟩
  · refine ⟨nM, m, jup m 109 0 (nI 0), ?_, ?_⟩
    · unfold f_C_forged
      simp (disch := omega) only [lits, negs, nI_add, nn1, leT, leF, ltT, ltF, eqF, mF1, mF2, mF3, mF4, mF5, mF6, mTT, eq_self, Nat.reduceEqDiff, ↓reduceIte, jbd_s, jpu_e, tI0, tI1, jgd_tI, jgd_bb, tfF, ftF, jup_at, jup_oc, jup_ok, e_isWriter_no hx]
    · unfold f_M_forged
      simp (disch := omega) only [lits, negs, nI_add, nn1, leT, leF, ltT, ltF, eqF, mF1, mF2, mF3, mF4, mF5, mF6, mTT, eq_self, Nat.reduceEqDiff, ↓reduceIte, jbd_s, jpu_e, tI0, tI1, jgd_tI, jgd_bb, tfF, ftF, jup_at, jup_oc, jup_ok, e_MisWriter_no hx]
  · rcases ixN y (n := d + 1) (by omega) with hy | ⟨dd, hdl, rfl⟩
    · refine ⟨nM, m, jup m 109 0 (nI 0), ?_, ?_⟩
      · unfold f_C_forged
        simp (disch := omega) only [lits, negs, nI_add, nn1, leT, leF, ltT, ltF, eqF, mF1, mF2, mF3, mF4, mF5, mF6, mTT, eq_self, Nat.reduceEqDiff, ↓reduceIte, jbd_s, jpu_e, tI0, tI1, jgd_tI, jgd_bb, tfF, ftF, jup_at, jup_oc, jup_ok, e_isWriter, t1]
        rcases hy with h | h
        · rw [if_pos h]
        · rw [if_pos (nI_lt_of (by omega) h)]
          split <;> rfl
      · unfold f_M_forged
        simp (disch := omega) only [lits, negs, nI_add, nn1, leT, leF, ltT, ltF, eqF, mF1, mF2, mF3, mF4, mF5, mF6, mTT, eq_self, Nat.reduceEqDiff, ↓reduceIte, jbd_s, jpu_e, tI0, tI1, jgd_tI, jgd_bb, tfF, ftF, jup_at, jup_oc, jup_ok, e_MisWriter, t2]
        rcases hy with h | h
        · rw [if_pos h]
        · rw [if_pos (nI_lt_of (by omega) h)]
          split <;> rfl
    · by_cases hz : nI 0 ≤ z
      · obtain ⟨m1, e1, f1, g1⟩ := e_Msums (W := W) (m := jup m 109 0 (nI 0)) (fun u hu v hv => by
          have := hW.1 u hu v hv
          rw [jup_oc (by omega)]
          exact ⟨this.1, this.2.1⟩)
        have hr : ∀ c, c ≠ 109 → c ≠ 143 → m1 c = m c := fun c h1 h2 => by rw [f1 c h2, jup_oc h1]
        have e2 := e_Mforged (N := N) (w := w) (dd := dd) (x := z) (m := m1) (by rw [f1 109 (by omega)]; exact hM) h30 g1 hw6
        rw [hr 128 (by omega) (by omega), hr 121 (by omega) (by omega), hr 122 (by omega) (by omega), hp, hw, hdd] at e2
        refine ⟨nI (verS (fl3 W 6) (m 37) (m 30) (m 31) N w dd z), m, m1, ?_, ?_⟩
        · unfold f_C_forged
          simp (disch := omega) only [lits, negs, nI_add, nn1, leT, leF, ltT, ltF, eqF, mF1, mF2, mF3, mF4, mF5, mF6, mTT, eq_self, Nat.reduceEqDiff, ↓reduceIte, jbd_s, jpu_e, tI0, tI1, jgd_tI, jgd_bb, tfF, ftF, jup_at, jup_oc, jup_ok, e_isWriter, t1, hz, e_verdict (RL_LN rl) (RW_WL hW) hw6]
        · unfold f_M_forged
          simp (disch := omega) only [lits, negs, nI_add, nn1, leT, leF, ltT, ltF, eqF, mF1, mF2, mF3, mF4, mF5, mF6, mTT, eq_self, Nat.reduceEqDiff, ↓reduceIte, jbd_s, jpu_e, tI0, tI1, jgd_tI, jgd_bb, tfF, ftF, jup_at, jup_oc, jup_ok, e_MisWriter, t2, hz, e1, e2]
      · refine ⟨nM, m, jup m 109 0 (nI 0), ?_, ?_⟩
        · unfold f_C_forged
          simp (disch := omega) only [lits, negs, nI_add, nn1, leT, leF, ltT, ltF, eqF, mF1, mF2, mF3, mF4, mF5, mF6, mTT, eq_self, Nat.reduceEqDiff, ↓reduceIte, jbd_s, jpu_e, tI0, tI1, jgd_tI, jgd_bb, tfF, ftF, jup_at, jup_oc, jup_ok, e_isWriter, t1]
          rw [if_neg hz]
        · unfold f_M_forged
          simp (disch := omega) only [lits, negs, nI_add, nn1, leT, leF, ltT, ltF, eqF, mF1, mF2, mF3, mF4, mF5, mF6, mTT, eq_self, Nat.reduceEqDiff, ↓reduceIte, jbd_s, jpu_e, tI0, tI1, jgd_tI, jgd_bb, tfF, ftF, jup_at, jup_oc, jup_ok, e_MisWriter, t2]
          rw [if_neg hz]
theorem lp_fgC {N dd : Nat} {Ls : Nat → Nat → Nat} {x : Int32} {k : Int32 → jMem → Option (Int32 × jMem)} {m : jMem} (h : LN N m) (hL : WL Ls m) : ∀ (d n i : Nat), i + d = 6 → d < n → lp_C_forgers_23 (nI dd) x k n (setS (fun w => decide (verS Ls (m 37) (m 30) (m 31) N w dd x = 0)) i) (nI i) m = k (setS (fun w => decide (verS Ls (m 37) (m 30) (m 31) N w dd x = 0)) 6) m := by
  intro d
  induction d with
  | zero =>
    intro n i hid hdn
    obtain ⟨n, rfl⟩ := ex_succ hdn
    rw [show i = 6 by omega]
    unfold lp_C_forgers_23
    simp (disch := omega) only [lits, negs, nI_add, nn1, leT, leF, ltT, ltF, eqF, mF1, mF2, mF3, mF4, mF5, mF6, mTT, eq_self, Nat.reduceEqDiff, ↓reduceIte, jbd_s, jpu_e, tI0, tI1, jgd_tI, jgd_bb, tfF, ftF, jup_at, jup_oc, jup_ok]
  | succ d ih =>
    intro n i hid hdn
    obtain ⟨n, rfl⟩ := ex_succ hdn
    have e := ih n (i + 1) (by omega) (by omega)
    unfold lp_C_forgers_23
    have hv : verS Ls (m 37) (m 30) (m 31) N i dd x ≤ 3 := by unfold verS; split; omega; split; omega; split <;> omega
    rw [setS_succ] at e
    have ev := e_verdict (dd := dd) (x := x) h hL (by omega : i < 6)
    by_cases q : verS Ls (m 37) (m 30) (m 31) N i dd x = 0
    · simp only [decide_eq_true q, if_pos] at e
      simp (disch := omega) only [lits, negs, nI_add, nn1, leT, leF, ltT, ltF, eqF, mF1, mF2, mF3, mF4, mF5, mF6, mTT, eq_self, Nat.reduceEqDiff, ↓reduceIte, jbd_s, jpu_e, tI0, tI1, jgd_tI, jgd_bb, tfF, ftF, jup_at, jup_oc, jup_ok, ev, q, e_bit]
      exact e
    · simp only [decide_eq_false q] at e
      simp (disch := omega) only [lits, negs, nI_add, nn1, leT, leF, ltT, ltF, eqF, mF1, mF2, mF3, mF4, mF5, mF6, mTT, eq_self, Nat.reduceEqDiff, ↓reduceIte, jbd_s, jpu_e, tI0, tI1, jgd_tI, jgd_bb, tfF, ftF, jup_at, jup_oc, jup_ok, ev]
      simp (disch := omega) only [lits, negs, nI_add, nn1, leT, leF, ltT, ltF, eqF, mF1, mF2, mF3, mF4, mF5, mF6, mTT, eq_self, Nat.reduceEqDiff, ↓reduceIte, jbd_s, jpu_e, tI0, tI1, jgd_tI, jgd_bb, tfF, ftF, jup_at, jup_oc, jup_ok] at e
      exact e
theorem lp_fgM {N dd : Nat} {Ls : Nat → Nat → Nat} {x : Int32} {k : Int32 → jMem → Option (Int32 × jMem)} {m : jMem} (hM : m 109 33 = nI N) (h30 : N ≤ 30) (hL : M143 Ls m) : ∀ (d n i : Nat), i + d = 6 → d < n → lp_M_forgers_32 (nI dd) x k n (setS (fun w => decide (verS Ls (m 128) (m 121) (m 122) N w dd x = 0)) i) (nI i) m = k (setS (fun w => decide (verS Ls (m 128) (m 121) (m 122) N w dd x = 0)) 6) m := by
  intro d
  induction d with
  | zero =>
    intro n i hid hdn
    obtain ⟨n, rfl⟩ := ex_succ hdn
    rw [show i = 6 by omega]
    unfold lp_M_forgers_32
    simp (disch := omega) only [lits, negs, nI_add, nn1, leT, leF, ltT, ltF, eqF, mF1, mF2, mF3, mF4, mF5, mF6, mTT, eq_self, Nat.reduceEqDiff, ↓reduceIte, jbd_s, jpu_e, tI0, tI1, jgd_tI, jgd_bb, tfF, ftF, jup_at, jup_oc, jup_ok]
  | succ d ih =>
    intro n i hid hdn
    obtain ⟨n, rfl⟩ := ex_succ hdn
    have e := ih n (i + 1) (by omega) (by omega)
    unfold lp_M_forgers_32
    have hv : verS Ls (m 128) (m 121) (m 122) N i dd x ≤ 3 := by unfold verS; split; omega; split; omega; split <;> omega
    rw [setS_succ] at e
    have ev := e_Mforged (dd := dd) (x := x) hM h30 hL (by omega : i < 6)
    by_cases q : verS Ls (m 128) (m 121) (m 122) N i dd x = 0
    · simp only [decide_eq_true q, if_pos] at e
      simp (disch := omega) only [lits, negs, nI_add, nn1, leT, leF, ltT, ltF, eqF, mF1, mF2, mF3, mF4, mF5, mF6, mTT, eq_self, Nat.reduceEqDiff, ↓reduceIte, jbd_s, jpu_e, tI0, tI1, jgd_tI, jgd_bb, tfF, ftF, jup_at, jup_oc, jup_ok, ev, q, sb_e]
      exact e
    · simp only [decide_eq_false q] at e
      simp (disch := omega) only [lits, negs, nI_add, nn1, leT, leF, ltT, ltF, eqF, mF1, mF2, mF3, mF4, mF5, mF6, mTT, eq_self, Nat.reduceEqDiff, ↓reduceIte, jbd_s, jpu_e, tI0, tI1, jgd_tI, jgd_bb, tfF, ftF, jup_at, jup_oc, jup_ok, ev]
      simp (disch := omega) only [lits, negs, nI_add, nn1, leT, leF, ltT, ltF, eqF, mF1, mF2, mF3, mF4, mF5, mF6, mTT, eq_self, Nat.reduceEqDiff, ↓reduceIte, jbd_s, jpu_e, tI0, tI1, jgd_tI, jgd_bb, tfF, ftF, jup_at, jup_oc, jup_ok] at e
      exact e
theorem q_forgers {N C : Nat} {m : jMem} (r : Rel N C m) (y z : Int32) : Qst (f_C_forgers y z) (f_M_forgers y z) m := by
  have rl := r.1
  have h30 := rl.1
  have rl1 := RL_scr (thr_scr m (nI 0)) rl
  have hM := rl1.2.2.1
  obtain ⟨d, hd, t1, t2⟩ := r.2.2.2.1
  obtain ⟨W, hW⟩ := r.2.2.2.2.1
  have hp : m 128 = m 37 := rl.2.2.2.1.2.2.2.2.2.2.2
  have hw : m 121 = m 30 := rl.2.2.2.1.1
  have hdd : m 122 = m 31 := rl.2.2.2.1.2.1
  rcases ixN y (n := d + 1) (by omega) with hy | ⟨dd, hdl, rfl⟩
  · refine ⟨nM, m, jup m 109 0 (nI 0), ?_, ?_⟩
    · unfold f_C_forgers
      simp (disch := omega) only [lits, negs, nI_add, nn1, leT, leF, ltT, ltF, eqF, mF1, mF2, mF3, mF4, mF5, mF6, mTT, eq_self, Nat.reduceEqDiff, ↓reduceIte, jbd_s, jpu_e, tI0, tI1, jgd_tI, jgd_bb, tfF, ftF, jup_at, jup_oc, jup_ok, t1]
      rcases hy with h | h
      · rw [if_pos h]
      · rw [if_pos (nI_lt_of (by omega) h)]
        split <;> rfl
    · unfold f_M_forgers
      simp (disch := omega) only [lits, negs, nI_add, nn1, leT, leF, ltT, ltF, eqF, mF1, mF2, mF3, mF4, mF5, mF6, mTT, eq_self, Nat.reduceEqDiff, ↓reduceIte, jbd_s, jpu_e, tI0, tI1, jgd_tI, jgd_bb, tfF, ftF, jup_at, jup_oc, jup_ok, t2]
      rcases hy with h | h
      · rw [if_pos h]
      · rw [if_pos (nI_lt_of (by omega) h)]
        split <;> rfl
  · by_cases hz : nI 0 ≤ z
    · obtain ⟨m1, e1, f1, g1⟩ := e_Msums (W := W) (m := jup m 109 0 (nI 0)) (fun u hu v hv => by
        have := hW.1 u hu v hv
        rw [jup_oc (by omega)]
        exact ⟨this.1, this.2.1⟩)
      have hr : ∀ c, c ≠ 109 → c ≠ 143 → m1 c = m c := fun c h1 h2 => by rw [f1 c h2, jup_oc h1]
      have e2 := lp_fgM (N := N) (dd := dd) (x := z) (k := fun w7 m6 => some (w7, m6)) (m := m1) (by rw [f1 109 (by omega)]; exact hM) h30 g1 6 5000 0 (by omega) (by omega)
      rw [hr 128 (by omega) (by omega), hr 121 (by omega) (by omega), hr 122 (by omega) (by omega), hp, hw, hdd] at e2
      refine ⟨setS (fun w => decide (verS (fl3 W 6) (m 37) (m 30) (m 31) N w dd z = 0)) 6, m, m1, ?_, ?_⟩
      · unfold f_C_forgers
        simp (disch := omega) only [lits, negs, nI_add, nn1, leT, leF, ltT, ltF, eqF, mF1, mF2, mF3, mF4, mF5, mF6, mTT, eq_self, Nat.reduceEqDiff, ↓reduceIte, jbd_s, jpu_e, tI0, tI1, jgd_tI, jgd_bb, tfF, ftF, jup_at, jup_oc, jup_ok, t1, hz]
        exact lp_fgC (dd := dd) (x := z) (k := fun w7 m6 => some (w7, m6)) (RL_LN rl) (RW_WL hW) 6 5000 0 (by omega) (by omega)
      · unfold f_M_forgers
        simp (disch := omega) only [lits, negs, nI_add, nn1, leT, leF, ltT, ltF, eqF, mF1, mF2, mF3, mF4, mF5, mF6, mTT, eq_self, Nat.reduceEqDiff, ↓reduceIte, jbd_s, jpu_e, tI0, tI1, jgd_tI, jgd_bb, tfF, ftF, jup_at, jup_oc, jup_ok, t2, hz, e1]
        exact e2
    · refine ⟨nM, m, jup m 109 0 (nI 0), ?_, ?_⟩
      · unfold f_C_forgers
        simp (disch := omega) only [lits, negs, nI_add, nn1, leT, leF, ltT, ltF, eqF, mF1, mF2, mF3, mF4, mF5, mF6, mTT, eq_self, Nat.reduceEqDiff, ↓reduceIte, jbd_s, jpu_e, tI0, tI1, jgd_tI, jgd_bb, tfF, ftF, jup_at, jup_oc, jup_ok, t1]
        rw [if_neg hz]
      · unfold f_M_forgers
        simp (disch := omega) only [lits, negs, nI_add, nn1, leT, leF, ltT, ltF, eqF, mF1, mF2, mF3, mF4, mF5, mF6, mTT, eq_self, Nat.reduceEqDiff, ↓reduceIte, jbd_s, jpu_e, tI0, tI1, jgd_tI, jgd_bb, tfF, ftF, jup_at, jup_oc, jup_ok, t2]
        rw [if_neg hz]
