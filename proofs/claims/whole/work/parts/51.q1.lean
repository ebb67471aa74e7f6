/-! questions about letters -/
theorem thr_scr (m : jMem) (v : Int32) : jfr Wscr m (jup m 109 0 v) := jfr_up rfl rfl
theorem scr_rg {m m' : jMem} (h : jfr Wscr m m') (a b : Nat) (hh : ((List.range (b - a + 1)).all fun i => Wscr.all fun q => !(q.1 == a + i)) = true) (c : Nat) (h1 : a ≤ c) (h2 : c ≤ b) : m' c = m c := by
  have h3 := List.all_eq_true.mp hh (c - a) (List.mem_range.mpr (by omega))
  rw [show a + (c - a) = c by omega] at h3
  exact scr_row h h3
theorem RL_scr {N : Nat} {m m' : jMem} (h : jfr Wscr m m') (r : RL N m) : RL N m' := RL_cong (h _ _ rfl) (h _ _ rfl) (scr_rg h 30 43 rfl) (scr_rg h 121 128 rfl) r
theorem RB_scr {N : Nat} {m m' : jMem} (h : jfr Wscr m m') (r : RB N m) : RB N m' := RB_cong (h _ _ rfl) (h _ _ rfl) (scr_row h rfl) r
theorem RD_scr {m m' : jMem} (h : jfr Wscr m m') (r : RD m) : RD m' := RD_cong (h _ _ rfl) (h _ _ rfl) r
theorem RW_scr {m m' : jMem} (h : jfr Wscr m m') (r : RW m) : RW m' := RW_cong (scr_row h rfl) (scr_rg h 47 59 rfl) r
theorem RC_scr {N C : Nat} {m m' : jMem} (h : jfr Wscr m m') (r : RC N C m) : RC N C m' := RC_cong (h _ _ rfl) (h _ _ rfl) (scr_rg h 60 64 rfl) (scr_rg h 130 134 rfl) r
theorem RK_scr {N : Nat} {m m' : jMem} (h : jfr Wscr m m') (r : RK N m) : RK N m' := RK_cong (scr_row h rfl) (scr_row h rfl) (scr_row h rfl) (scr_row h rfl) (scr_rg h 77 82 rfl) (scr_row h rfl) (scr_row h rfl) (h _ _ rfl) r
theorem RH_scr {N : Nat} {m m' : jMem} (h : jfr Wscr m m') (r : RH N m) : RH N m' := RH_cong (scr_row h rfl) (scr_rg h 67 75 rfl) (scr_row h rfl) (scr_row h rfl) r
theorem RP_scr {N : Nat} {m m' : jMem} (h : jfr Wscr m m') (r : RP N m) : RP N m' := RP_cong (h _ _ rfl) (h _ _ rfl) (scr_row h rfl) (scr_row h rfl) (scr_row h rfl) (scr_row h rfl) r
theorem RX_scr {m m' : jMem} (h : jfr Wscr m m') (r : RX m) : RX m' := RX_cong (h _ _ rfl) (h _ _ rfl) (h _ _ rfl) (h _ _ rfl) (h _ _ rfl) (h _ _ rfl) (h _ _ rfl) (h _ _ rfl) (fun c a b _ => scr_rg h 3 19 rfl c a b) (scr_rg h 111 116 rfl) r
theorem RL_past {N : Nat} {m : jMem} (r : RL N m) : ∀ k l, l < k → l < N → ∀ j, bt (m 37 l) j = true → j < l := by
  intro k
  induction k with
  | zero => intro l h; exact absurd h (Nat.not_lt_zero l)
  | succ k ih =>
    intro l hl hN j hj
    obtain ⟨-, -, -, -, -, -, -, -, -, h1, h2, -⟩ := r.2.2.2.2.1 l hN
    rw [h2, b_or, Bool.or_eq_true, b_aO] at hj
    rcases hj with hj | ⟨x, hx, hx2, hx3⟩
    · exact h1 j hj
    · have := ih x (by omega) (by omega) j hx3
      omega
theorem RL_LN {N : Nat} {m : jMem} (r : RL N m) : LN N m := ⟨r.1, r.2.1, fun l hl => RL_past r (l + 1) l (by omega) hl, r.2.2.2.2.2.1⟩
theorem RL_wr {N : Nat} {m : jMem} (r : RL N m) : ∀ l, l < N → ∃ w, w < 6 ∧ m 30 l = nI w := fun l hl => (r.2.2.2.2.1 l hl).1
def sumV (m : jMem) (l : Nat) : Nat := (m 41 l).toNatClampNeg
theorem RL_sum {N : Nat} {m : jMem} (r : RL N m) (l : Nat) (hl : l < N) : m 41 l = nI (sumV m l) ∧ sumV m l ≤ 1000 ∧ sumV m l = 1 + mxS (bt (m 37 l)) (sumV m) l := by
  obtain ⟨-, -, -, -, -, -, -, -, -, -, -, -, -, -, s, h1, h2, h3⟩ := r.2.2.2.2.1 l hl
  have h30 := r.1
  have e : sumV m l = s := by unfold sumV; rw [h2, nI_clamp (by omega)]
  rw [e]
  exact ⟨h2, by omega, h3⟩
theorem q_before {N C : Nat} {m : jMem} (r : Rel N C m) (x y : Int32) : Qst (f_C_before x y) (f_M_before x y) m := by
  have rl := r.1
  have h30 := rl.1
  have hN := rl.2.1
  have rl1 := RL_scr (thr_scr m (nI 0)) rl
  have hM := rl1.2.2.1
  rcases ixN x (n := N) (by omega) with hx | ⟨a, ha, rfl⟩
  · refine ⟨nM, m, jup m 109 0 (nI 0), ?_, ?_⟩
    · unfold f_C_before
      simp (disch := omega) only [lits, negs, nI_add, nn1, leT, leF, ltT, ltF, eqF, mF1, mF2, mF3, mF4, mF5, mF6, mTT, eq_self, Nat.reduceEqDiff, ↓reduceIte, jbd_s, jpu_e, tI0, tI1, jgd_tI, jgd_bb, tfF, ftF, jup_at, jup_oc, jup_ok, e_areTwo_no hN h30 (Or.inl hx)]
    · unfold f_M_before
      simp (disch := omega) only [lits, negs, nI_add, nn1, leT, leF, ltT, ltF, eqF, mF1, mF2, mF3, mF4, mF5, mF6, mTT, eq_self, Nat.reduceEqDiff, ↓reduceIte, jbd_s, jpu_e, tI0, tI1, jgd_tI, jgd_bb, tfF, ftF, jup_at, jup_oc, jup_ok, e_MisLetter_no hM hx]
  · rcases ixN y (n := N) (by omega) with hy | ⟨b, hb, rfl⟩
    · refine ⟨nM, m, jup m 109 0 (nI 0), ?_, ?_⟩
      · unfold f_C_before
        simp (disch := omega) only [lits, negs, nI_add, nn1, leT, leF, ltT, ltF, eqF, mF1, mF2, mF3, mF4, mF5, mF6, mTT, eq_self, Nat.reduceEqDiff, ↓reduceIte, jbd_s, jpu_e, tI0, tI1, jgd_tI, jgd_bb, tfF, ftF, jup_at, jup_oc, jup_ok, e_areTwo_no hN h30 (Or.inr hy)]
      · unfold f_M_before
        simp (disch := omega) only [lits, negs, nI_add, nn1, leT, leF, ltT, ltF, eqF, mF1, mF2, mF3, mF4, mF5, mF6, mTT, eq_self, Nat.reduceEqDiff, ↓reduceIte, jbd_s, jpu_e, tI0, tI1, jgd_tI, jgd_bb, tfF, ftF, jup_at, jup_oc, jup_ok, e_MisLetter hM h30, e_MisLetter_no hM hy]
    · by_cases e : a = b
      · subst e
        refine ⟨nM, m, jup m 109 0 (nI 0), ?_, ?_⟩
        · unfold f_C_before
          simp (disch := omega) only [lits, negs, nI_add, nn1, leT, leF, ltT, ltF, eqF, mF1, mF2, mF3, mF4, mF5, mF6, mTT, eq_self, Nat.reduceEqDiff, ↓reduceIte, jbd_s, jpu_e, tI0, tI1, jgd_tI, jgd_bb, tfF, ftF, jup_at, jup_oc, jup_ok, e_areTwo_same hN h30]
        · unfold f_M_before
          simp (disch := omega) only [lits, negs, nI_add, nn1, leT, leF, ltT, ltF, eqF, mF1, mF2, mF3, mF4, mF5, mF6, mTT, eq_self, Nat.reduceEqDiff, ↓reduceIte, jbd_s, jpu_e, tI0, tI1, jgd_tI, jgd_bb, tfF, ftF, jup_at, jup_oc, jup_ok, e_MisLetter hM h30]
      · have hp : m 128 = m 37 := rl.2.2.2.1.2.2.2.2.2.2.2
        refine ⟨if bt (m 37 b) a then nI 1 else if bt (m 37 a) b then nI 2 else nI 0, m, jup m 109 0 (nI 0), ?_, ?_⟩
        · unfold f_C_before
          simp (disch := omega) only [lits, negs, nI_add, nn1, leT, leF, ltT, ltF, eqF, mF1, mF2, mF3, mF4, mF5, mF6, mTT, eq_self, Nat.reduceEqDiff, ↓reduceIte, jbd_s, jpu_e, tI0, tI1, jgd_tI, jgd_bb, tfF, ftF, jup_at, jup_oc, jup_ok, e_areTwo hN h30, ld_37, e_isIn]
          cases bt (m 37 b) a <;> cases bt (m 37 a) b <;> rfl
        · unfold f_M_before
          simp (disch := omega) only [lits, negs, nI_add, nn1, leT, leF, ltT, ltF, eqF, mF1, mF2, mF3, mF4, mF5, mF6, mTT, eq_self, Nat.reduceEqDiff, ↓reduceIte, jbd_s, jpu_e, tI0, tI1, jgd_tI, jgd_bb, tfF, ftF, jup_at, jup_oc, jup_ok, e_MisLetter hM h30, e_MisBefore, hp]
          cases bt (m 37 b) a <;> cases bt (m 37 a) b <;> rfl
theorem q_sum {N C : Nat} {m : jMem} (r : Rel N C m) (x : Int32) : Qst (f_C_sum x) (f_M_sum x) m := by
  have rl := r.1
  have h30 := rl.1
  have hN := rl.2.1
  have rl1 := RL_scr (thr_scr m (nI 0)) rl
  have hM := rl1.2.2.1
  have hp : m 128 = m 37 := rl.2.2.2.1.2.2.2.2.2.2.2
  rcases ixN x (n := N) (by omega) with hx | ⟨a, ha, rfl⟩
  · refine ⟨nM, m, jup m 109 0 (nI 0), ?_, ?_⟩
    · unfold f_C_sum
      simp (disch := omega) only [lits, negs, nI_add, nn1, leT, leF, ltT, ltF, eqF, mF1, mF2, mF3, mF4, mF5, mF6, mTT, eq_self, Nat.reduceEqDiff, ↓reduceIte, jbd_s, jpu_e, tI0, tI1, jgd_tI, jgd_bb, tfF, ftF, jup_at, jup_oc, jup_ok, e_isLetter_no hN hx]
    · unfold f_M_sum
      simp (disch := omega) only [lits, negs, nI_add, nn1, leT, leF, ltT, ltF, eqF, mF1, mF2, mF3, mF4, mF5, mF6, mTT, eq_self, Nat.reduceEqDiff, ↓reduceIte, jbd_s, jpu_e, tI0, tI1, jgd_tI, jgd_bb, tfF, ftF, jup_at, jup_oc, jup_ok, e_MisLetter_no hM hx]
  · obtain ⟨s1, s2, s3⟩ := RL_sum rl a ha
    have hp1 : jup m 109 0 (nI 0) 128 = m 37 := by rw [jup_oc (by omega)]; exact hp
    obtain ⟨m', e, -⟩ := e_Msum (l := a) (s := sumV m) (m := jup m 109 0 (nI 0)) (by omega) (fun y hy => (RL_sum rl y (by omega)).2.1) (fun y hy => by rw [hp1]; exact (RL_sum rl y (by omega)).2.2)
    rw [hp1] at e
    refine ⟨nI (sumV m a), m, m', ?_, ?_⟩
    · unfold f_C_sum
      simp (disch := omega) only [lits, negs, nI_add, nn1, leT, leF, ltT, ltF, eqF, mF1, mF2, mF3, mF4, mF5, mF6, mTT, eq_self, Nat.reduceEqDiff, ↓reduceIte, jbd_s, jpu_e, tI0, tI1, jgd_tI, jgd_bb, tfF, ftF, jup_at, jup_oc, jup_ok, e_isLetter hN h30, ld_41, s1]
    · unfold f_M_sum
      simp (disch := omega) only [lits, negs, nI_add, nn1, leT, leF, ltT, ltF, eqF, mF1, mF2, mF3, mF4, mF5, mF6, mTT, eq_self, Nat.reduceEqDiff, ↓reduceIte, jbd_s, jpu_e, tI0, tI1, jgd_tI, jgd_bb, tfF, ftF, jup_at, jup_oc, jup_ok, e_MisLetter hM h30, e]
      rw [s3, Nat.add_comm]
theorem q_number {N C : Nat} {m : jMem} (r : Rel N C m) (x y : Int32) : Qst (f_C_number x y) (f_M_number x y) m := by
  have rl := r.1
  have h30 := rl.1
  have hN := rl.2.1
  have rl1 := RL_scr (thr_scr m (nI 0)) rl
  have hM := rl1.2.2.1
  have hp : m 128 = m 37 := rl.2.2.2.1.2.2.2.2.2.2.2
  have hw : m 121 = m 30 := rl.2.2.2.1.1
  rcases ixN x (n := N) (by omega) with hx | ⟨a, ha, rfl⟩
  · refine ⟨nM, m, jup m 109 0 (nI 0), ?_, ?_⟩
    · unfold f_C_number
      simp (disch := omega) only [lits, negs, nI_add, nn1, leT, leF, ltT, ltF, eqF, mF1, mF2, mF3, mF4, mF5, mF6, mTT, eq_self, Nat.reduceEqDiff, ↓reduceIte, jbd_s, jpu_e, tI0, tI1, jgd_tI, jgd_bb, tfF, ftF, jup_at, jup_oc, jup_ok, e_isLetter_no hN hx]
    · unfold f_M_number
      simp (disch := omega) only [lits, negs, nI_add, nn1, leT, leF, ltT, ltF, eqF, mF1, mF2, mF3, mF4, mF5, mF6, mTT, eq_self, Nat.reduceEqDiff, ↓reduceIte, jbd_s, jpu_e, tI0, tI1, jgd_tI, jgd_bb, tfF, ftF, jup_at, jup_oc, jup_ok, e_MisLetter_no hM hx]
  · rcases ixW y with hy | ⟨b, hb, rfl⟩
    · refine ⟨nM, m, jup m 109 0 (nI 0), ?_, ?_⟩
      · unfold f_C_number
        simp (disch := omega) only [lits, negs, nI_add, nn1, leT, leF, ltT, ltF, eqF, mF1, mF2, mF3, mF4, mF5, mF6, mTT, eq_self, Nat.reduceEqDiff, ↓reduceIte, jbd_s, jpu_e, tI0, tI1, jgd_tI, jgd_bb, tfF, ftF, jup_at, jup_oc, jup_ok, e_isLetter hN h30, e_isWriter_no hy]
      · unfold f_M_number
        simp (disch := omega) only [lits, negs, nI_add, nn1, leT, leF, ltT, ltF, eqF, mF1, mF2, mF3, mF4, mF5, mF6, mTT, eq_self, Nat.reduceEqDiff, ↓reduceIte, jbd_s, jpu_e, tI0, tI1, jgd_tI, jgd_bb, tfF, ftF, jup_at, jup_oc, jup_ok, e_MisLetter hM h30, e_MisWriter_no hy]
    · refine ⟨nI (numS (m 37) (m 30) a (nI b)), m, jup m 109 0 (nI 0), ?_, ?_⟩
      · unfold f_C_number
        simp (disch := omega) only [lits, negs, nI_add, nn1, leT, leF, ltT, ltF, eqF, mF1, mF2, mF3, mF4, mF5, mF6, mTT, eq_self, Nat.reduceEqDiff, ↓reduceIte, jbd_s, jpu_e, tI0, tI1, jgd_tI, jgd_bb, tfF, ftF, jup_at, jup_oc, jup_ok, e_isLetter hN h30, e_isWriter, e_numberFor (RL_LN rl)]
      · unfold f_M_number
        simp (disch := omega) only [lits, negs, nI_add, nn1, leT, leF, ltT, ltF, eqF, mF1, mF2, mF3, mF4, mF5, mF6, mTT, eq_self, Nat.reduceEqDiff, ↓reduceIte, jbd_s, jpu_e, tI0, tI1, jgd_tI, jgd_bb, tfF, ftF, jup_at, jup_oc, jup_ok, e_MisLetter hM h30, e_MisWriter, e_Mnum, hp, hw]
theorem lp_Mpair {l : Nat} {u v : Int32} {k : Int32 → jMem → Option (Int32 × jMem)} {m : jMem} (hl : l < 30) : ∀ (d n i : Nat), i + d = (l + 1) → d < n → lp_M_pair_35 (nI l) u v k n (nI (mxS (fun x => decide (m 121 x = v) && (decide (x = l) || bt (m 128 l) x)) (fun x => numS (m 128) (m 121) x u) i)) (nI i) m = k (nI (pairS (m 128) (m 121) l u v)) m := by
  intro d
  induction d with
  | zero =>
    intro n i hid hdn
    obtain ⟨n, rfl⟩ := ex_succ hdn
    rw [show i = (l + 1) by omega]
    unfold lp_M_pair_35
    simp (disch := omega) only [lits, negs, nI_add, nn1, leT, leF, ltT, ltF, eqF, mF1, mF2, mF3, mF4, mF5, mF6, mTT, eq_self, Nat.reduceEqDiff, ↓reduceIte, jbd_s, jpu_e, tI0, tI1, jgd_tI, jgd_bb, tfF, ftF, jup_at, jup_oc, jup_ok, pairS]
  | succ d ih =>
    intro n i hid hdn
    obtain ⟨n, rfl⟩ := ex_succ hdn
    have e := ih n (i + 1) (by omega) (by omega)
    unfold lp_M_pair_35
    have hm := mxS_le (p := fun x => decide (m 121 x = v) && (decide (x = l) || bt (m 128 l) x)) (f := fun x => numS (m 128) (m 121) x u) (n := i) (B := 100) (fun y hy => by have := numS_le (m 128) (m 121) y u; omega)
    have hn2 := numS_le (m 128) (m 121) i u
    rw [mxS_succ] at e
    by_cases h1 : m 121 i = v
    · by_cases h2 : i = l
      · simp only [decide_eq_true h1, decide_eq_true h2, Bool.true_and, Bool.true_or, if_pos] at e
        subst h2
        simp (disch := omega) only [lits, negs, nI_add, nn1, leT, leF, ltT, ltF, eqF, mF1, mF2, mF3, mF4, mF5, mF6, mTT, eq_self, Nat.reduceEqDiff, ↓reduceIte, jbd_s, jpu_e, tI0, tI1, jgd_tI, jgd_bb, tfF, ftF, jup_at, jup_oc, jup_ok, ld_121, h1, e_Mnum, jmax_nI]
        exact e
      · simp only [decide_eq_true h1, decide_eq_false h2, Bool.true_and, Bool.false_or] at e
        cases h3 : bt (m 128 l) i
        · rw [h3] at e
          simp (disch := omega) only [lits, negs, nI_add, nn1, leT, leF, ltT, ltF, eqF, mF1, mF2, mF3, mF4, mF5, mF6, mTT, eq_self, Nat.reduceEqDiff, ↓reduceIte, jbd_s, jpu_e, tI0, tI1, jgd_tI, jgd_bb, tfF, ftF, jup_at, jup_oc, jup_ok, ld_121, h1, e_MisBefore, h3] at e ⊢
          exact e
        · rw [h3] at e
          simp (disch := omega) only [lits, negs, nI_add, nn1, leT, leF, ltT, ltF, eqF, mF1, mF2, mF3, mF4, mF5, mF6, mTT, eq_self, Nat.reduceEqDiff, ↓reduceIte, jbd_s, jpu_e, tI0, tI1, jgd_tI, jgd_bb, tfF, ftF, jup_at, jup_oc, jup_ok, ld_121, h1, e_MisBefore, h3, e_Mnum, jmax_nI] at e ⊢
          exact e
    · simp only [decide_eq_false h1, Bool.false_and] at e
      simp (disch := omega) only [lits, negs, nI_add, nn1, leT, leF, ltT, ltF, eqF, mF1, mF2, mF3, mF4, mF5, mF6, mTT, eq_self, Nat.reduceEqDiff, ↓reduceIte, jbd_s, jpu_e, tI0, tI1, jgd_tI, jgd_bb, tfF, ftF, jup_at, jup_oc, jup_ok, ld_121] at e ⊢
      rw [if_neg h1]
      exact e
theorem q_pair {N C : Nat} {m : jMem} (r : Rel N C m) (x y z : Int32) : Qst (f_C_pair x y z) (f_M_pair x y z) m := by
  have rl := r.1
  have h30 := rl.1
  have hN := rl.2.1
  have rl1 := RL_scr (thr_scr m (nI 0)) rl
  have hM := rl1.2.2.1
  have hp : m 128 = m 37 := rl.2.2.2.1.2.2.2.2.2.2.2
  have hw : m 121 = m 30 := rl.2.2.2.1.1
  rcases ixN x (n := N) (by omega) with hx | ⟨a, ha, rfl⟩
  · refine ⟨nM, m, jup m 109 0 (nI 0), ?_, ?_⟩
    · unfold f_C_pair
      simp (disch := omega) only [lits, negs, nI_add, nn1, leT, leF, ltT, ltF, eqF, mF1, mF2, mF3, mF4, mF5, mF6, mTT, eq_self, Nat.reduceEqDiff, ↓reduceIte, jbd_s, jpu_e, tI0, tI1, jgd_tI, jgd_bb, tfF, ftF, jup_at, jup_oc, jup_ok, e_isLetter_no hN hx]
    · unfold f_M_pair
      simp (disch := omega) only [lits, negs, nI_add, nn1, leT, leF, ltT, ltF, eqF, mF1, mF2, mF3, mF4, mF5, mF6, mTT, eq_self, Nat.reduceEqDiff, ↓reduceIte, jbd_s, jpu_e, tI0, tI1, jgd_tI, jgd_bb, tfF, ftF, jup_at, jup_oc, jup_ok, e_MisLetter_no hM hx]
  · rcases ixW y with hy | ⟨b, hb, rfl⟩
    · refine ⟨nM, m, jup m 109 0 (nI 0), ?_, ?_⟩
      · unfold f_C_pair
        simp (disch := omega) only [lits, negs, nI_add, nn1, leT, leF, ltT, ltF, eqF, mF1, mF2, mF3, mF4, mF5, mF6, mTT, eq_self, Nat.reduceEqDiff, ↓reduceIte, jbd_s, jpu_e, tI0, tI1, jgd_tI, jgd_bb, tfF, ftF, jup_at, jup_oc, jup_ok, e_isLetter hN h30, e_isWriter_no hy]
      · unfold f_M_pair
        simp (disch := omega) only [lits, negs, nI_add, nn1, leT, leF, ltT, ltF, eqF, mF1, mF2, mF3, mF4, mF5, mF6, mTT, eq_self, Nat.reduceEqDiff, ↓reduceIte, jbd_s, jpu_e, tI0, tI1, jgd_tI, jgd_bb, tfF, ftF, jup_at, jup_oc, jup_ok, e_MisLetter hM h30, e_MisWriter_no hy]
    · rcases ixW z with hz | ⟨c, hc, rfl⟩
      · refine ⟨nM, m, jup m 109 0 (nI 0), ?_, ?_⟩
        · unfold f_C_pair
          simp (disch := omega) only [lits, negs, nI_add, nn1, leT, leF, ltT, ltF, eqF, mF1, mF2, mF3, mF4, mF5, mF6, mTT, eq_self, Nat.reduceEqDiff, ↓reduceIte, jbd_s, jpu_e, tI0, tI1, jgd_tI, jgd_bb, tfF, ftF, jup_at, jup_oc, jup_ok, e_isLetter hN h30, e_isWriter, e_isWriter_no hz]
        · unfold f_M_pair
          simp (disch := omega) only [lits, negs, nI_add, nn1, leT, leF, ltT, ltF, eqF, mF1, mF2, mF3, mF4, mF5, mF6, mTT, eq_self, Nat.reduceEqDiff, ↓reduceIte, jbd_s, jpu_e, tI0, tI1, jgd_tI, jgd_bb, tfF, ftF, jup_at, jup_oc, jup_ok, e_MisLetter hM h30, e_MisWriter, e_MisWriter_no hz]
      · refine ⟨nI (pairS (m 37) (m 30) a (nI b) (nI c)), m, jup m 109 0 (nI 0), ?_, ?_⟩
        · unfold f_C_pair
          simp (disch := omega) only [lits, negs, nI_add, nn1, leT, leF, ltT, ltF, eqF, mF1, mF2, mF3, mF4, mF5, mF6, mTT, eq_self, Nat.reduceEqDiff, ↓reduceIte, jbd_s, jpu_e, tI0, tI1, jgd_tI, jgd_bb, tfF, ftF, jup_at, jup_oc, jup_ok, e_isLetter hN h30, e_isWriter, e_non (RL_LN rl)]
        · have e := lp_Mpair (l := a) (u := nI b) (v := nI c) (k := fun w16 m15 => some (w16, m15)) (m := jup m 109 0 (nI 0)) (by omega) (a + 1) 5000 0 (by omega) (by omega)
          rw [jup_oc (by omega), jup_oc (by omega), hp, hw] at e
          unfold f_M_pair
          simp (disch := omega) only [lits, negs, nI_add, nn1, leT, leF, ltT, ltF, eqF, mF1, mF2, mF3, mF4, mF5, mF6, mTT, eq_self, Nat.reduceEqDiff, ↓reduceIte, jbd_s, jpu_e, tI0, tI1, jgd_tI, jgd_bb, tfF, ftF, jup_at, jup_oc, jup_ok, e_MisLetter hM h30, e_MisWriter]
          exact e
theorem q_list {N C : Nat} {m : jMem} (r : Rel N C m) (x : Int32) : Qst (f_C_list x) (f_M_list x) m := by
  have rl := r.1
  have h30 := rl.1
  have hN := rl.2.1
  have rl1 := RL_scr (thr_scr m (nI 0)) rl
  have hM := rl1.2.2.1
  have hp : m 128 = m 37 := rl.2.2.2.1.2.2.2.2.2.2.2
  rcases ixN x (n := N) (by omega) with hx | ⟨a, ha, rfl⟩
  · refine ⟨nM, m, jup m 109 0 (nI 0), ?_, ?_⟩
    · unfold f_C_list
      simp (disch := omega) only [lits, negs, nI_add, nn1, leT, leF, ltT, ltF, eqF, mF1, mF2, mF3, mF4, mF5, mF6, mTT, eq_self, Nat.reduceEqDiff, ↓reduceIte, jbd_s, jpu_e, tI0, tI1, jgd_tI, jgd_bb, tfF, ftF, jup_at, jup_oc, jup_ok, e_isLetter_no hN hx]
    · unfold f_M_list
      simp (disch := omega) only [lits, negs, nI_add, nn1, leT, leF, ltT, ltF, eqF, mF1, mF2, mF3, mF4, mF5, mF6, mTT, eq_self, Nat.reduceEqDiff, ↓reduceIte, jbd_s, jpu_e, tI0, tI1, jgd_tI, jgd_bb, tfF, ftF, jup_at, jup_oc, jup_ok, e_MisLetter_no hM hx]
  · obtain ⟨-, -, -, -, -, -, -, -, -, -, -, -, h39, -⟩ := rl.2.2.2.2.1 a ha
    refine ⟨m 39 a, m, jup m 109 0 (nI 0), ?_, ?_⟩
    · unfold f_C_list
      simp (disch := omega) only [lits, negs, nI_add, nn1, leT, leF, ltT, ltF, eqF, mF1, mF2, mF3, mF4, mF5, mF6, mTT, eq_self, Nat.reduceEqDiff, ↓reduceIte, jbd_s, jpu_e, tI0, tI1, jgd_tI, jgd_bb, tfF, ftF, jup_at, jup_oc, jup_ok, e_isLetter hN h30, ld_39]
    · unfold f_M_list
      simp (disch := omega) only [lits, negs, nI_add, nn1, leT, leF, ltT, ltF, eqF, mF1, mF2, mF3, mF4, mF5, mF6, mTT, eq_self, Nat.reduceEqDiff, ↓reduceIte, jbd_s, jpu_e, tI0, tI1, jgd_tI, jgd_bb, tfF, ftF, jup_at, jup_oc, jup_ok, e_MisLetter hM h30, e_Mlist, hp]
      rw [h39]
