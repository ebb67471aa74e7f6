/-! tells, errs -/
theorem b_thr {g : Nat → Bool} {T : Nat → Int32} {acc x : Int32} {l j : Nat} (hl : l ≤ 30) (hx : oI x l) (hj : j < 32) : bt (thrV g T acc x) j = true ↔ bt acc j = true ∨ ∃ i, i < l ∧ x = nI i ∧ g i = false ∧ (j = i ∨ bt (T i) j = true) := by
  rcases hx with rfl | ⟨a, ha, rfl⟩
  · rw [thrV_m]
    refine ⟨Or.inl, fun h => ?_⟩
    rcases h with h | ⟨i, hi, e, -⟩
    · exact h
    · rw [mF2 (by omega)] at e; exact e.elim
  · rw [thrV_j (by omega)]
    have hu : ∀ i, i < l → nI a = nI i → i = a := fun i hi e => by
      by_cases q : a = i
      · exact q.symm
      · rw [eqF q (by omega) (by omega)] at e; exact e.elim
    cases hg : g a
    · rw [if_neg (by decide), b_or, b_or, b_sb (by omega) hj, Bool.or_eq_true, Bool.or_eq_true, decide_eq_true_iff]
      refine ⟨fun h => ?_, fun h => ?_⟩
      · rcases h with h | h
        · exact Or.inl h
        · exact Or.inr ⟨a, ha, rfl, hg, h⟩
      · rcases h with h | ⟨i, hi, e, -, h⟩
        · exact Or.inl h
        · rw [hu i hi e] at h
          exact Or.inr h
    · rw [if_pos rfl]
      refine ⟨Or.inl, fun h => ?_⟩
      rcases h with h | ⟨i, hi, e, e2, -⟩
      · exact h
      · rw [hu i hi e, hg] at e2; exact absurd e2 (by decide)
theorem oI_lt {x : Int32} {l j : Nat} (hl : l ≤ 30) (hx : oI x l) (hj : j < 32) (e : x = nI j) : j < l := by
  rcases hx with rfl | ⟨a, ha, rfl⟩
  · rw [mF2 (by omega)] at e; exact e.elim
  · by_cases q : a = j
    · omega
    · rw [eqF q (by omega) (by omega)] at e; exact e.elim
theorem cit_thr {x y : Int32} {T : Nat → Int32} {l : Nat} {g : Nat → Bool} (hl : l ≤ 30) (hx : oI x l) (hy : oI y l) (hg : ∀ j, g j = false) : ansS x y ||| aO (bt (ansS x y)) T l = thrV g T (thrV g T (nI 0) x) y := by
  apply b_ext
  intro j hj
  have hS : ∀ i, i < 32 → (bt (ansS x y) i = true ↔ (x = nI i ∨ y = nI i)) := fun i hi => by
    rw [b_ansS hl hx hy hi, Bool.or_eq_true, decide_eq_true_iff, decide_eq_true_iff]
  rw [Bool.eq_iff_iff, b_or, Bool.or_eq_true, b_aO, hS j hj, b_thr hl hy hj, b_thr hl hx hj, b_n0]
  refine ⟨fun h => ?_, fun h => ?_⟩
  · rcases h with (h | h) | ⟨i, hi, h, h2⟩
    · exact Or.inl (Or.inr ⟨j, oI_lt hl hx hj h, h, hg _, Or.inl rfl⟩)
    · exact Or.inr ⟨j, oI_lt hl hy hj h, h, hg _, Or.inl rfl⟩
    · rcases (hS i (by omega)).mp h with h | h
      · exact Or.inl (Or.inr ⟨i, hi, h, hg _, Or.inr h2⟩)
      · exact Or.inr ⟨i, hi, h, hg _, Or.inr h2⟩
  · rcases h with (h | ⟨i, hi, h, -, h2⟩) | ⟨i, hi, h, -, h2⟩
    · exact absurd h (by decide)
    · rcases h2 with h2 | h2
      · exact Or.inl (Or.inl (by rw [h2]; exact h))
      · exact Or.inr ⟨i, hi, (hS i (by omega)).mpr (Or.inl h), h2⟩
    · rcases h2 with h2 | h2
      · exact Or.inl (Or.inr (by rw [h2]; exact h))
      · exact Or.inr ⟨i, hi, (hS i (by omega)).mpr (Or.inr h), h2⟩
theorem RL_oI {N : Nat} {m : jMem} (r : RL N m) (l : Nat) (hl : l < N) : oI (m 34 l) l ∧ oI (m 35 l) l := ⟨(r.2.2.2.2.1 l hl).2.2.2.2.1, (r.2.2.2.2.1 l hl).2.2.2.2.2.1⟩
theorem RL_cit {N : Nat} {m : jMem} (r : RL N m) {g : Nat → Bool} (hg : ∀ j, g j = false) (l : Nat) (hl : l < N) : m 38 l = ansF g (m 34) (m 35) (m 38) l := by
  obtain ⟨h1, h2⟩ := RL_oI r l hl
  have h30 := r.1
  obtain ⟨-, -, -, -, -, -, -, -, -, -, -, h38, -⟩ := r.2.2.2.2.1 l hl
  unfold ansF
  rw [hg, if_neg (by decide), ← cit_thr (by omega) h1 h2 hg]
  exact h38
theorem RL_lis {N : Nat} {m : jMem} (r : RL N m) (l : Nat) (hl : l < N) : m 40 l = lisF (m 37) (m 40) l := by
  obtain ⟨-, -, -, -, -, -, -, -, -, -, -, -, h39, h40, -⟩ := r.2.2.2.2.1 l hl
  unfold lisF
  rw [← h39]
  exact h40
theorem RB_bu {N : Nat} {m : jMem} (r : RB N m) : ∀ j, j < N → m 129 j = tI (!bt (m 29 16) j) := by
  obtain ⟨b, -, -, -, h⟩ := r
  exact h
theorem e_bears {N C br : Nat} {m : jMem} (rl : RL N m) (rb : RB N m) (hbr : br ≤ 3) : ∃ m', f_M_bears (nI br) m = some ((), m') ∧ (∀ c, c ≠ 141 → m' c = m c) ∧ (br = 0 → ∀ l, l < N → m' 141 l = m 38 l) ∧ (br = 3 → ∀ l, l < N → m' 141 l = m 40 l) := by
  have h30 := rl.1
  have rl' := rl
  obtain ⟨-, -, hM, ⟨-, -, -, -, q1, q2, -, hp⟩, -⟩ := rl'
  rcases (by omega : br = 0 ∨ br = 3 ∨ (br ≠ 0 ∧ br ≠ 3)) with rfl | rfl | ⟨hq1, hq2⟩
  · obtain ⟨m', e, f, t⟩ := e_byA (left := false) h30 hM (fun l hl => by rw [q1, q2]; exact RL_oI rl l hl) (RB_bu rb)
    refine ⟨m', ?_, f, fun _ l hl => ?_, fun h => absurd h (by decide)⟩
    · unfold f_M_bears
      rw [tI_f] at e
      simp (disch := omega) only [lits, negs, nI_add, nn1, leT, leF, ltT, ltF, eqF, mF1, mF2, mF3, mF4, mF5, mF6, mTT, eq_self, Nat.reduceEqDiff, ↓reduceIte, jbd_s, jpu_e, tI0, tI1, jgd_tI, jgd_bb, tfF, ftF, jup_at, jup_oc, jup_ok, e]
    · rw [q1, q2] at t
      exact ansF_one h30 (fun l hl => RL_oI rl l hl) t (fun l hl => RL_cit rl (fun _ => rfl) l hl) (l + 1) l (by omega) hl
  · obtain ⟨m', e, f, t⟩ := e_byL h30 hM
    refine ⟨m', ?_, f, fun h => absurd h (by decide), fun _ l hl => ?_⟩
    · unfold f_M_bears
      simp (disch := omega) only [lits, negs, nI_add, nn1, leT, leF, ltT, ltF, eqF, mF1, mF2, mF3, mF4, mF5, mF6, mTT, eq_self, Nat.reduceEqDiff, ↓reduceIte, jbd_s, jpu_e, tI0, tI1, jgd_tI, jgd_bb, tfF, ftF, jup_at, jup_oc, jup_ok, e]
    · rw [hp] at t
      exact lisF_one t (fun l hl => RL_lis rl l hl) (l + 1) l (by omega) hl
  · refine ⟨m, ?_, fun _ _ => rfl, fun h => absurd h hq1, fun h => absurd h hq2⟩
    unfold f_M_bears
    simp (disch := omega) only [lits, negs, nI_add, nn1, leT, leF, ltT, ltF, eqF, mF1, mF2, mF3, mF4, mF5, mF6, mTT, eq_self, Nat.reduceEqDiff, ↓reduceIte, jbd_s, jpu_e, tI0, tI1, jgd_tI, jgd_bb, tfF, ftF, jup_at, jup_oc, jup_ok]
/-- what the reference's telling rests on -/
def MT (N br : Nat) (P W C L : Nat → Int32) (m : jMem) : Prop := m 109 33 = nI N ∧ m 128 = P ∧ m 121 = W ∧ (br = 0 → ∀ l, l < N → m 141 l = C l) ∧ (br = 3 → ∀ l, l < N → m 141 l = L l)
theorem MT.fr {N br : Nat} {P W C L : Nat → Int32} {m m' : jMem} (h : ∀ c, c ≠ 140 → m' c = m c) (r : MT N br P W C L m) : MT N br P W C L m' := by
  unfold MT
  rw [h 109 (by omega), h 128 (by omega), h 121 (by omega), h 141 (by omega)]
  exact r
theorem e_MisTold {N a b br : Nat} {P W C L : Nat → Int32} {s : Nat → Nat} {m : jMem} (r : MT N br P W C L m) (h30 : N ≤ 30) (hs : ∀ l, l < N → s l ≤ 1000) (hr : ∀ l, l < N → s l = 1 + mxS (bt (P l)) s l) (ha : a < N) (hb : b < N) (hbr : br ≤ 3) : ∃ m', f_M_isTold (nI a) (nI b) (nI br) m = some (tI (tldS P W C L s a b br), m') ∧ (∀ c, c ≠ 140 → m' c = m c) := by
  obtain ⟨hM, hP, hW, hC, hL⟩ := r
  rcases (by omega : br = 0 ∨ br = 1 ∨ br = 2 ∨ br = 3) with rfl | rfl | rfl | rfl
  · refine ⟨m, ?_, fun _ _ => rfl⟩
    rw [tldS_0]
    unfold f_M_isTold
    simp (disch := omega) only [lits, negs, nI_add, nn1, leT, leF, ltT, ltF, eqF, mF1, mF2, mF3, mF4, mF5, mF6, mTT, eq_self, Nat.reduceEqDiff, ↓reduceIte, jbd_s, jpu_e, tI0, tI1, jgd_tI, jgd_bb, tfF, ftF, jup_at, jup_oc, jup_ok, ld_141, hC rfl b hb, bit1]
    cases bt (C b) a <;> rfl
  · obtain ⟨m1, e1, f1⟩ := e_Msum (l := a) (s := s) (m := m) (by omega) (fun y hy => hs y (by omega)) (fun y hy => by rw [hP]; exact hr y (by omega))
    obtain ⟨m2, e2, f2⟩ := e_Msum (l := b) (s := s) (m := m1) (by omega) (fun y hy => hs y (by omega)) (fun y hy => by rw [f1 128 (by omega), hP]; exact hr y (by omega))
    refine ⟨m2, ?_, fun c hc => by rw [f2 c hc, f1 c hc]⟩
    rw [hP, Nat.add_comm, ← hr a ha] at e1
    rw [f1 128 (by omega), hP, Nat.add_comm, ← hr b hb] at e2
    have sa := hs a ha
    have sb := hs b hb
    rw [tldS_1]
    unfold f_M_isTold
    simp (disch := omega) only [lits, negs, nI_add, nn1, leT, leF, ltT, ltF, eqF, mF1, mF2, mF3, mF4, mF5, mF6, mTT, eq_self, Nat.reduceEqDiff, ↓reduceIte, jbd_s, jpu_e, tI0, tI1, jgd_tI, jgd_bb, tfF, ftF, jup_at, jup_oc, jup_ok, e1, e2]
    by_cases q : s a < s b
    · simp (disch := omega) only [lits, negs, nI_add, nn1, leT, leF, ltT, ltF, eqF, mF1, mF2, mF3, mF4, mF5, mF6, mTT, eq_self, Nat.reduceEqDiff, ↓reduceIte, jbd_s, jpu_e, tI0, tI1, jgd_tI, jgd_bb, tfF, ftF, jup_at, jup_oc, jup_ok, decide_eq_true q, tI_t]
    · simp (disch := omega) only [lits, negs, nI_add, nn1, leT, leF, ltT, ltF, eqF, mF1, mF2, mF3, mF4, mF5, mF6, mTT, eq_self, Nat.reduceEqDiff, ↓reduceIte, jbd_s, jpu_e, tI0, tI1, jgd_tI, jgd_bb, tfF, ftF, jup_at, jup_oc, jup_ok, decide_eq_false q, tI_f]
  · refine ⟨m, ?_, fun _ _ => rfl⟩
    have n1 := numS_le P W a (W a)
    have n2 := numS_le P W b (W a)
    rw [tldS_2]
    unfold f_M_isTold
    simp (disch := omega) only [lits, negs, nI_add, nn1, leT, leF, ltT, ltF, eqF, mF1, mF2, mF3, mF4, mF5, mF6, mTT, eq_self, Nat.reduceEqDiff, ↓reduceIte, jbd_s, jpu_e, tI0, tI1, jgd_tI, jgd_bb, tfF, ftF, jup_at, jup_oc, jup_ok, ld_121, hW, e_Mnum, hP]
    by_cases q : numS P W a (W a) ≤ numS P W b (W a)
    · simp (disch := omega) only [lits, negs, nI_add, nn1, leT, leF, ltT, ltF, eqF, mF1, mF2, mF3, mF4, mF5, mF6, mTT, eq_self, Nat.reduceEqDiff, ↓reduceIte, jbd_s, jpu_e, tI0, tI1, jgd_tI, jgd_bb, tfF, ftF, jup_at, jup_oc, jup_ok, decide_eq_true q, tI_t]
    · simp (disch := omega) only [lits, negs, nI_add, nn1, leT, leF, ltT, ltF, eqF, mF1, mF2, mF3, mF4, mF5, mF6, mTT, eq_self, Nat.reduceEqDiff, ↓reduceIte, jbd_s, jpu_e, tI0, tI1, jgd_tI, jgd_bb, tfF, ftF, jup_at, jup_oc, jup_ok, decide_eq_false q, tI_f]
  · refine ⟨m, ?_, fun _ _ => rfl⟩
    rw [tldS_3]
    unfold f_M_isTold
    simp (disch := omega) only [lits, negs, nI_add, nn1, leT, leF, ltT, ltF, eqF, mF1, mF2, mF3, mF4, mF5, mF6, mTT, eq_self, Nat.reduceEqDiff, ↓reduceIte, jbd_s, jpu_e, tI0, tI1, jgd_tI, jgd_bb, tfF, ftF, jup_at, jup_oc, jup_ok, ld_141, hL rfl b hb, bit1]
    cases bt (L b) a <;> rfl
theorem q_tells {N C : Nat} {m : jMem} (r : Rel N C m) (x y z : Int32) : Qst (f_C_tells x y z) (f_M_tells x y z) m := by
  have rl := r.1
  have h30 := rl.1
  have hN := rl.2.1
  have rl1 := RL_scr (thr_scr m (nI 0)) rl
  have hM := rl1.2.2.1
  rcases ixN x (n := N) (by omega) with hx | ⟨a, ha, rfl⟩
  · refine ⟨nM, m, jup m 109 0 (nI 0), ?_, ?_⟩
    · unfold f_C_tells
      simp (disch := omega) only [lits, negs, nI_add, nn1, leT, leF, ltT, ltF, eqF, mF1, mF2, mF3, mF4, mF5, mF6, mTT, eq_self, Nat.reduceEqDiff, ↓reduceIte, jbd_s, jpu_e, tI0, tI1, jgd_tI, jgd_bb, tfF, ftF, jup_at, jup_oc, jup_ok, e_areTwo_no hN h30 (Or.inl hx)]
    · unfold f_M_tells
      simp (disch := omega) only [lits, negs, nI_add, nn1, leT, leF, ltT, ltF, eqF, mF1, mF2, mF3, mF4, mF5, mF6, mTT, eq_self, Nat.reduceEqDiff, ↓reduceIte, jbd_s, jpu_e, tI0, tI1, jgd_tI, jgd_bb, tfF, ftF, jup_at, jup_oc, jup_ok, e_MisLetter_no hM hx]
  · rcases ixN y (n := N) (by omega) with hy | ⟨b, hb, rfl⟩
    · refine ⟨nM, m, jup m 109 0 (nI 0), ?_, ?_⟩
      · unfold f_C_tells
        simp (disch := omega) only [lits, negs, nI_add, nn1, leT, leF, ltT, ltF, eqF, mF1, mF2, mF3, mF4, mF5, mF6, mTT, eq_self, Nat.reduceEqDiff, ↓reduceIte, jbd_s, jpu_e, tI0, tI1, jgd_tI, jgd_bb, tfF, ftF, jup_at, jup_oc, jup_ok, e_areTwo_no hN h30 (Or.inr hy)]
      · unfold f_M_tells
        simp (disch := omega) only [lits, negs, nI_add, nn1, leT, leF, ltT, ltF, eqF, mF1, mF2, mF3, mF4, mF5, mF6, mTT, eq_self, Nat.reduceEqDiff, ↓reduceIte, jbd_s, jpu_e, tI0, tI1, jgd_tI, jgd_bb, tfF, ftF, jup_at, jup_oc, jup_ok, e_MisLetter hM h30, e_MisLetter_no hM hy]
    · by_cases e : a = b
      · subst e
        refine ⟨nM, m, jup m 109 0 (nI 0), ?_, ?_⟩
        · unfold f_C_tells
          simp (disch := omega) only [lits, negs, nI_add, nn1, leT, leF, ltT, ltF, eqF, mF1, mF2, mF3, mF4, mF5, mF6, mTT, eq_self, Nat.reduceEqDiff, ↓reduceIte, jbd_s, jpu_e, tI0, tI1, jgd_tI, jgd_bb, tfF, ftF, jup_at, jup_oc, jup_ok, e_areTwo_same hN h30]
        · unfold f_M_tells
          simp (disch := omega) only [lits, negs, nI_add, nn1, leT, leF, ltT, ltF, eqF, mF1, mF2, mF3, mF4, mF5, mF6, mTT, eq_self, Nat.reduceEqDiff, ↓reduceIte, jbd_s, jpu_e, tI0, tI1, jgd_tI, jgd_bb, tfF, ftF, jup_at, jup_oc, jup_ok, e_MisLetter hM h30]
      · rcases ixN z (n := 4) (by omega) with hz | ⟨br, hbr, rfl⟩
        · have hz3 : z < nI 0 ∨ ¬ z ≤ nI 3 := by
            rcases hz with h | h
            · exact Or.inl h
            · refine Or.inr fun q => ?_
              rw [Int32.le_iff_toInt_le, nI_toInt (by omega)] at h q
              omega
          have hzb : f_C_isBearing z m = some (nI 0, m) := by
            unfold f_C_isBearing
            simp only [lits]
            rcases hz3 with h | h
            · rw [if_pos h]
            · by_cases q : z < nI 0
              · rw [if_pos q]
              · rw [if_neg q, if_pos (Int32.not_le.mp h)]
          refine ⟨nM, m, jup m 109 0 (nI 0), ?_, ?_⟩
          · unfold f_C_tells
            simp (disch := omega) only [lits, negs, nI_add, nn1, leT, leF, ltT, ltF, eqF, mF1, mF2, mF3, mF4, mF5, mF6, mTT, eq_self, Nat.reduceEqDiff, ↓reduceIte, jbd_s, jpu_e, tI0, tI1, jgd_tI, jgd_bb, tfF, ftF, jup_at, jup_oc, jup_ok, e_areTwo hN h30, hzb]
          · unfold f_M_tells
            simp (disch := omega) only [lits, negs, nI_add, nn1, leT, leF, ltT, ltF, eqF, mF1, mF2, mF3, mF4, mF5, mF6, mTT, eq_self, Nat.reduceEqDiff, ↓reduceIte, jbd_s, jpu_e, tI0, tI1, jgd_tI, jgd_bb, tfF, ftF, jup_at, jup_oc, jup_ok, e_MisLetter hM h30]
            rcases hz3 with h | h
            · rw [if_pos h]
            · by_cases q : z < nI 0
              · rw [if_pos q]
              · rw [if_neg q, if_neg h]
        · have hzb : f_C_isBearing (nI br) m = some (nI 1, m) := by
            unfold f_C_isBearing
            simp (disch := omega) only [lits, negs, nI_add, nn1, leT, leF, ltT, ltF, eqF, mF1, mF2, mF3, mF4, mF5, mF6, mTT, eq_self, Nat.reduceEqDiff, ↓reduceIte, jbd_s, jpu_e, tI0, tI1, jgd_tI, jgd_bb, tfF, ftF, jup_at, jup_oc, jup_ok]
          obtain ⟨m1, e1, f1, g1, g2⟩ := e_bears (C := 0) rl1 (RB_scr (thr_scr m (nI 0)) r.2.1) (by omega : br ≤ 3)
          have hrow : ∀ c, c ≠ 109 → c ≠ 141 → m1 c = m c := fun c h1 h2 => by rw [f1 c h2, jup_oc h1]
          have hMT : MT N br (m 37) (m 30) (m 38) (m 40) m1 := by
            refine ⟨by rw [f1 _ (by omega)]; exact hM, by rw [hrow _ (by omega) (by omega)]; exact rl.2.2.2.1.2.2.2.2.2.2.2, by rw [hrow _ (by omega) (by omega)]; exact rl.2.2.2.1.1, fun h l hl => by rw [g1 h l hl, jup_oc (by omega)], fun h l hl => by rw [g2 h l hl, jup_oc (by omega)]⟩
          obtain ⟨m2, e2, -⟩ := e_MisTold hMT h30 (fun l hl => (RL_sum rl l hl).2.1) (fun l hl => (RL_sum rl l hl).2.2) ha hb (by omega)
          refine ⟨tI (tldS (m 37) (m 30) (m 38) (m 40) (sumV m) a b br), m, m2, ?_, ?_⟩
          · unfold f_C_tells
            simp (disch := omega) only [lits, negs, nI_add, nn1, leT, leF, ltT, ltF, eqF, mF1, mF2, mF3, mF4, mF5, mF6, mTT, eq_self, Nat.reduceEqDiff, ↓reduceIte, jbd_s, jpu_e, tI0, tI1, jgd_tI, jgd_bb, tfF, ftF, jup_at, jup_oc, jup_ok, e_areTwo hN h30, hzb, e_isTold (RL_LN rl) (RL_wr rl) (fun l hl => (RL_sum rl l hl).1) (fun l hl => (RL_sum rl l hl).2.1) ha hb (by omega : br ≤ 3), e_truth]
          · unfold f_M_tells
            simp (disch := omega) only [lits, negs, nI_add, nn1, leT, leF, ltT, ltF, eqF, mF1, mF2, mF3, mF4, mF5, mF6, mTT, eq_self, Nat.reduceEqDiff, ↓reduceIte, jbd_s, jpu_e, tI0, tI1, jgd_tI, jgd_bb, tfF, ftF, jup_at, jup_oc, jup_ok, e_MisLetter hM h30, e1, e2, e_Mis]
theorem lp_Merr1 {N a br c0 : Nat} {P W C L : Nat → Int32} {s : Nat → Nat} {k : Int32 → jMem → Option (Int32 × jMem)} (h30 : N ≤ 30) (hs : ∀ l, l < N → s l ≤ 1000) (hr : ∀ l, l < N → s l = 1 + mxS (bt (P l)) s l) (ha : a < N) (hbr : br ≤ 3) : ∀ (d n i : Nat) (m : jMem), i + d = N → d < n → MT N br P W C L m → ∃ m', lp_M_errs_36 (nI br) (nI a) k n (nI (c0 + fb_ct (fun b => !decide (a = b) && (tldS P W C L s a b br != bt (P b) a)) i)) (nI i) m = k (nI (c0 + fb_ct (fun b => !decide (a = b) && (tldS P W C L s a b br != bt (P b) a)) N)) m' ∧ MT N br P W C L m' := by
  intro d
  induction d with
  | zero =>
    intro n i m h hn r
    obtain ⟨n, rfl⟩ := ex_succ hn
    have e : i = N := by omega
    subst e
    refine ⟨m, ?_, r⟩
    have hM := r.1
    unfold lp_M_errs_36
    simp (disch := omega) only [lits, negs, nI_add, nn1, leT, leF, ltT, ltF, eqF, mF1, mF2, mF3, mF4, mF5, mF6, mTT, eq_self, Nat.reduceEqDiff, ↓reduceIte, jbd_s, jpu_e, tI0, tI1, jgd_tI, jgd_bb, tfF, ftF, jup_at, jup_oc, jup_ok, hM]
  | succ d ih =>
    intro n i m h hn r
    obtain ⟨n, rfl⟩ := ex_succ hn
    have hM := r.1
    by_cases hq : a = i
    · obtain ⟨m', e, r'⟩ := ih n (i + 1) m (by omega) (by omega) r
      rw [fb_ct_succ] at e
      simp only [decide_eq_true hq, Bool.not_true, Bool.false_and, if_neg (by decide : ¬ false = true), Nat.add_zero] at e
      refine ⟨m', ?_, r'⟩
      subst hq
      unfold lp_M_errs_36
      simp (disch := omega) only [lits, negs, nI_add, nn1, leT, leF, ltT, ltF, eqF, mF1, mF2, mF3, mF4, mF5, mF6, mTT, eq_self, Nat.reduceEqDiff, ↓reduceIte, jbd_s, jpu_e, tI0, tI1, jgd_tI, jgd_bb, tfF, ftF, jup_at, jup_oc, jup_ok, hM, Nat.add_zero]
      exact e
    · obtain ⟨m1, e1, f1⟩ := e_MisTold (b := i) r h30 hs hr ha (by omega) hbr
      have r1 := r.fr f1
      obtain ⟨m', e, r'⟩ := ih n (i + 1) m1 (by omega) (by omega) r1
      rw [fb_ct_succ] at e
      refine ⟨m', ?_, r'⟩
      have hP := r1.2.1
      unfold lp_M_errs_36
      by_cases hr2 : tldS P W C L s a i br = bt (P i) a
      · simp only [decide_eq_false hq, bne_T hr2, Bool.and_false, if_neg (by decide : ¬ false = true), Nat.add_zero] at e
        simp (disch := omega) only [lits, negs, nI_add, nn1, leT, leF, ltT, ltF, eqF, mF1, mF2, mF3, mF4, mF5, mF6, mTT, eq_self, Nat.reduceEqDiff, ↓reduceIte, jbd_s, jpu_e, tI0, tI1, jgd_tI, jgd_bb, tfF, ftF, jup_at, jup_oc, jup_ok, hM, e1, e_MisBefore, hP, tIeq, hr2, Nat.add_zero]
        exact e
      · simp only [decide_eq_false hq, bne_F hr2, Bool.not_false, Bool.and_true, if_pos, ← Nat.add_assoc] at e
        simp (disch := omega) only [lits, negs, nI_add, nn1, leT, leF, ltT, ltF, eqF, mF1, mF2, mF3, mF4, mF5, mF6, mTT, eq_self, Nat.reduceEqDiff, ↓reduceIte, jbd_s, jpu_e, tI0, tI1, jgd_tI, jgd_bb, tfF, ftF, jup_at, jup_oc, jup_ok, hM, e1, e_MisBefore, hP, tIeq, Nat.add_zero]
        rw [if_neg hr2]
        exact e
theorem lp_Merr2 {N br : Nat} {P W C L : Nat → Int32} {s : Nat → Nat} {k : Int32 → jMem → Option (Int32 × jMem)} (h30 : N ≤ 30) (hs : ∀ l, l < N → s l ≤ 1000) (hr : ∀ l, l < N → s l = 1 + mxS (bt (P l)) s l) (hbr : br ≤ 3) : ∀ (d n i : Nat) (m : jMem), i + d = N → d < n → MT N br P W C L m → ∃ m', lp_M_errs_25 (nI br) k n (nI (fb_sm (fun a => fb_ct (fun b => !decide (a = b) && (tldS P W C L s a b br != bt (P b) a)) N) i)) (nI i) m = k (nI (errS (fun a b => tldS P W C L s a b br) P N)) m' ∧ MT N br P W C L m' := by
  intro d
  induction d with
  | zero =>
    intro n i m h hn r
    obtain ⟨n, rfl⟩ := ex_succ hn
    have e : i = N := by omega
    subst e
    refine ⟨m, ?_, r⟩
    have hM := r.1
    unfold lp_M_errs_25 errS
    simp (disch := omega) only [lits, negs, nI_add, nn1, leT, leF, ltT, ltF, eqF, mF1, mF2, mF3, mF4, mF5, mF6, mTT, eq_self, Nat.reduceEqDiff, ↓reduceIte, jbd_s, jpu_e, tI0, tI1, jgd_tI, jgd_bb, tfF, ftF, jup_at, jup_oc, jup_ok, hM]
  | succ d ih =>
    intro n i m h hn r
    obtain ⟨n, rfl⟩ := ex_succ hn
    have hM := r.1
    obtain ⟨m1, e1, r1⟩ := lp_Merr1 (a := i) (c0 := fb_sm (fun a => fb_ct (fun b => !decide (a = b) && (tldS P W C L s a b br != bt (P b) a)) N) i) (k := fun w9 m8 => lp_M_errs_25 (nI br) k n w9 (nI (i + 1)) m8) h30 hs hr (by omega) hbr N 5000 0 m (by omega) (by omega) r
    obtain ⟨m', e, r'⟩ := ih n (i + 1) m1 (by omega) (by omega) r1
    refine ⟨m', ?_, r'⟩
    rw [fb_sm_succ] at e
    unfold lp_M_errs_25
    simp (disch := omega) only [lits, negs, nI_add, nn1, leT, leF, ltT, ltF, eqF, mF1, mF2, mF3, mF4, mF5, mF6, mTT, eq_self, Nat.reduceEqDiff, ↓reduceIte, jbd_s, jpu_e, tI0, tI1, jgd_tI, jgd_bb, tfF, ftF, jup_at, jup_oc, jup_ok, hM]
    exact e1.trans e
theorem q_errs {N C : Nat} {m : jMem} (r : Rel N C m) (z : Int32) : Qst (f_C_errs z) (f_M_errs z) m := by
  have rl := r.1
  have h30 := rl.1
  have hN := rl.2.1
  have rl1 := RL_scr (thr_scr m (nI 0)) rl
  have hM := rl1.2.2.1
  rcases ixN z (n := 4) (by omega) with hz | ⟨br, hbr, rfl⟩
  · have hz3 : z < nI 0 ∨ ¬ z ≤ nI 3 := by
      rcases hz with h | h
      · exact Or.inl h
      · refine Or.inr fun q => ?_
        rw [Int32.le_iff_toInt_le, nI_toInt (by omega)] at h q
        omega
    have hzb : f_C_isBearing z m = some (nI 0, m) := by
      unfold f_C_isBearing
      simp only [lits]
      rcases hz3 with h | h
      · rw [if_pos h]
      · by_cases q : z < nI 0
        · rw [if_pos q]
        · rw [if_neg q, if_pos (Int32.not_le.mp h)]
    refine ⟨nM, m, jup m 109 0 (nI 0), ?_, ?_⟩
    · unfold f_C_errs
      simp (disch := omega) only [lits, negs, nI_add, nn1, leT, leF, ltT, ltF, eqF, mF1, mF2, mF3, mF4, mF5, mF6, mTT, eq_self, Nat.reduceEqDiff, ↓reduceIte, jbd_s, jpu_e, tI0, tI1, jgd_tI, jgd_bb, tfF, ftF, jup_at, jup_oc, jup_ok, hzb]
    · unfold f_M_errs
      simp (disch := omega) only [lits, negs, nI_add, nn1, leT, leF, ltT, ltF, eqF, mF1, mF2, mF3, mF4, mF5, mF6, mTT, eq_self, Nat.reduceEqDiff, ↓reduceIte, jbd_s, jpu_e, tI0, tI1, jgd_tI, jgd_bb, tfF, ftF, jup_at, jup_oc, jup_ok]
      rcases hz3 with h | h
      · rw [if_pos h]
      · by_cases q : z < nI 0
        · rw [if_pos q]
        · rw [if_neg q, if_neg h]
  · have hzb : f_C_isBearing (nI br) m = some (nI 1, m) := by
      unfold f_C_isBearing
      simp (disch := omega) only [lits, negs, nI_add, nn1, leT, leF, ltT, ltF, eqF, mF1, mF2, mF3, mF4, mF5, mF6, mTT, eq_self, Nat.reduceEqDiff, ↓reduceIte, jbd_s, jpu_e, tI0, tI1, jgd_tI, jgd_bb, tfF, ftF, jup_at, jup_oc, jup_ok]
    obtain ⟨m1, e1, f1, g1, g2⟩ := e_bears (C := 0) rl1 (RB_scr (thr_scr m (nI 0)) r.2.1) (by omega : br ≤ 3)
    have hrow : ∀ c, c ≠ 109 → c ≠ 141 → m1 c = m c := fun c h1 h2 => by rw [f1 c h2, jup_oc h1]
    have hMT : MT N br (m 37) (m 30) (m 38) (m 40) m1 := by
      refine ⟨by rw [f1 _ (by omega)]; exact hM, by rw [hrow _ (by omega) (by omega)]; exact rl.2.2.2.1.2.2.2.2.2.2.2, by rw [hrow _ (by omega) (by omega)]; exact rl.2.2.2.1.1, fun h l hl => by rw [g1 h l hl, jup_oc (by omega)], fun h l hl => by rw [g2 h l hl, jup_oc (by omega)]⟩
    obtain ⟨m2, e2, -⟩ := lp_Merr2 (k := fun w11 m10 => some (w11, m10)) h30 (fun l hl => (RL_sum rl l hl).2.1) (fun l hl => (RL_sum rl l hl).2.2) (by omega : br ≤ 3) N 5000 0 m1 (by omega) (by omega) hMT
    refine ⟨nI (errS (fun a b => tldS (m 37) (m 30) (m 38) (m 40) (sumV m) a b br) (m 37) N), m, m2, ?_, ?_⟩
    · unfold f_C_errs
      simp (disch := omega) only [lits, negs, nI_add, nn1, leT, leF, ltT, ltF, eqF, mF1, mF2, mF3, mF4, mF5, mF6, mTT, eq_self, Nat.reduceEqDiff, ↓reduceIte, jbd_s, jpu_e, tI0, tI1, jgd_tI, jgd_bb, tfF, ftF, jup_at, jup_oc, jup_ok, hzb, e_tw (RL_LN rl) (RL_wr rl) (fun l hl => (RL_sum rl l hl).1) (fun l hl => (RL_sum rl l hl).2.1) (by omega : br ≤ 3)]
    · unfold f_M_errs
      simp (disch := omega) only [lits, negs, nI_add, nn1, leT, leF, ltT, ltF, eqF, mF1, mF2, mF3, mF4, mF5, mF6, mTT, eq_self, Nat.reduceEqDiff, ↓reduceIte, jbd_s, jpu_e, tI0, tI1, jgd_tI, jgd_bb, tfF, ftF, jup_at, jup_oc, jup_ok, e1]
      exact e2
