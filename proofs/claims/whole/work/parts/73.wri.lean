/-! write -/
theorem e_isIn_K {K x : Int32} {N : Nat} {m : jMem} (hK : ∀ j, bt K j = true → j < N) (hx : x < nI 0 ∨ nI N ≤ x) (h30 : N ≤ 30) : f_C_isIn K x m = some (nI 0, m) := by
  rcases ixN x (n := 30) (by omega) with h | ⟨j, hj, rfl⟩
  · exact e_isIn_no h
  · rw [e_isIn hj]
    cases q : bt K j
    · rfl
    · have := hK j q
      rcases hx with h | h
      · exact (nI_pos (by omega) h).elim
      · exact (nI_ge this (by omega) h).elim
/-- none, a letter, or neither -/
theorem ox3 (x : Int32) {N : Nat} (hN : N ≤ 30) : x = nM ∨ (∃ i, i < N ∧ x = nI i) ∨ (¬ x = nM ∧ (x < nI 0 ∨ nI N ≤ x)) := by
  by_cases h : x = nM
  · exact Or.inl h
  · rcases ixN x (n := N) (by omega) with hx | hx
    · exact Or.inr (Or.inr ⟨h, hx⟩)
    · exact Or.inr (Or.inl hx)
/-- how the reference goes on -/
def wrGo (w : Nat) (y z a b : Int32) (M : jMem) : Option (Int32 × jMem) :=
  jbd (f_M_hasRoom y M) fun x6 m7 =>
  if x6 = nI 0 then some (nM, m7) else jbd (f_M_written (nI w) y z a b m7) fun _ m9 => some (((m9 109 33) - nI 1), m9)
theorem wr_cases {N w : Nat} {y z a b : Int32} {m M : jMem} (rl : RL2 N m M) (rk : RK2 N m M) (hw : w < 6) (hy1 : ¬ y < nI 1) (hy2 : ¬ nI 63 < y) (hyw : bt y w = false) (hz1 : ¬ z < nI 0) (hz2 : z ≤ nI 2) : (f_C_mayAnswer (nI w) z a b m = some (nI 1, m) ∧ f_M_write (nI w) y z a b M = wrGo w y z a b (jup M 109 0 (nI 0)) ∧ oI a N ∧ oI b N ∧ (a = nM → b = nM) ∧ (b ≠ nM → b ≠ a) ∧ (z = nI 2 → a ≠ nM)) ∨ (f_C_mayAnswer (nI w) z a b m = some (nI 0, m) ∧ f_M_write (nI w) y z a b M = some (nM, jup M 109 0 (nI 0))) := by
  have h30 := rl.1
  have hM : jup M 109 0 (nI 0) 109 33 = nI N := by rw [jup_ok (by omega)]; exact rl.2.2.1
  obtain ⟨k1, k2, -⟩ := rk.1 w hw
  have hby := rl.2.2.2.2.2.1 w hw
  have q1 : M 121 = m 30 := rl.2.2.2.1.1
  have hKb : ∀ j, bt (m 42 w ||| m 75 w) j = true → j < N := fun j hj => by
    rw [b_or, Bool.or_eq_true] at hj
    rcases hj with hj | hj
    · exact ((hby j).mp hj).1
    · exact (k2 j hj).1
  have hBb : ∀ j, bt (m 42 w) j = true → j < N := fun j hj => ((hby j).mp hj).1
  have ekn := e_knownTo (w := w) (m := m) hw
  have ew := e_MisWriter (w := w) (m := jup M 109 0 (nI 0)) hw
  have hkM : jup M 109 0 (nI 0) 135 w = m 42 w ||| m 75 w := by rw [jup_oc (by omega)]; exact k1
  have e121 : jup M 109 0 (nI 0) 121 = m 30 := by rw [jup_oc (by omega)]; exact q1
  have hisk : ∀ i, i < N → f_M_isKnown (nI w) (nI i) (jup M 109 0 (nI 0)) = some (tI (bt (m 42 w ||| m 75 w) i), jup M 109 0 (nI 0)) := fun i hi => by
    have := e_isKnown hM h30 hw hi
    rw [hkM] at this
    exact this
  have hiskn : ∀ x : Int32, (x < nI 0 ∨ nI N ≤ x) → f_M_isKnown (nI w) x (jup M 109 0 (nI 0)) = some (nI 0, jup M 109 0 (nI 0)) := fun x hx => e_isKnown_no hM hw hx
  have hnm : ∀ i, i < N → ¬ nI i = nM := fun i hi e => by rw [mF1 (by omega)] at e; exact e
  have hbyi : ∀ i, i < N → bt (m 42 w) i = decide (m 30 i = nI w) := fun i hi => by
    rw [Bool.eq_iff_iff, hby i, decide_eq_true_iff]
    exact ⟨fun h => h.2, fun h => ⟨hi, h⟩⟩
  have hz2' : z = nI 2 → bt (m 42 w ||| m 75 w) 0 = bt (m 42 w ||| m 75 w) 0 := fun _ => rfl
  rcases ox3 a h30 with rfl | ⟨i, hi, rfl⟩ | ⟨ha1, ha2⟩
  · -- it answers none
    by_cases hb : b = nM
    · subst hb
      by_cases h2 : z = nI 2
      · refine Or.inr ⟨?_, ?_⟩
        · unfold f_C_mayAnswer
          simp only [lits, negs]
          simp (disch := omega) only [lits, negs, nI_add, nn1, leT, leF, ltT, ltF, eqF, mF1, mF2, mF3, mF4, mF5, mF6, mTT, eq_self, Nat.reduceEqDiff, ↓reduceIte, ↓jbd_s, ↓jpu_e, tI0, tI1, jgd_tI, jgd_bb, tfF, ftF, jup_at, jup_oc, jup_ok, h2, ↓ld_42, ↓jb (e_isIn_m (v := m 42 w) (m := m))]
        · unfold f_M_write
          simp only [lits, negs]
          simp (disch := omega) only [lits, negs, nI_add, nn1, leT, leF, ltT, ltF, eqF, mF1, mF2, mF3, mF4, mF5, mF6, mTT, eq_self, Nat.reduceEqDiff, ↓reduceIte, ↓jbd_s, ↓jpu_e, tI0, tI1, jgd_tI, jgd_bb, tfF, ftF, jup_at, jup_oc, jup_ok, ↓jb ew, hy1, hy2, bit1, hyw, hz1, hz2, h2]
      · refine Or.inl ⟨?_, ?_, Or.inl rfl, Or.inl rfl, fun _ => rfl, fun h => absurd rfl h, fun h => absurd h h2⟩
        · unfold f_C_mayAnswer
          simp only [lits, negs]
          simp (disch := omega) only [lits, negs, nI_add, nn1, leT, leF, ltT, ltF, eqF, mF1, mF2, mF3, mF4, mF5, mF6, mTT, eq_self, Nat.reduceEqDiff, ↓reduceIte, ↓jbd_s, ↓jpu_e, tI0, tI1, jgd_tI, jgd_bb, tfF, ftF, jup_at, jup_oc, jup_ok, h2]
        · unfold f_M_write wrGo
          simp only [lits, negs]
          simp (disch := omega) only [lits, negs, nI_add, nn1, leT, leF, ltT, ltF, eqF, mF1, mF2, mF3, mF4, mF5, mF6, mTT, eq_self, Nat.reduceEqDiff, ↓reduceIte, ↓jbd_s, ↓jpu_e, tI0, tI1, jgd_tI, jgd_bb, tfF, ftF, jup_at, jup_oc, jup_ok, ↓jb ew, hy1, hy2, bit1, hyw, hz1, hz2, h2]
    · refine Or.inr ⟨?_, ?_⟩
      · unfold f_C_mayAnswer
        simp only [lits, negs]
        by_cases h2 : z = nI 2
        · simp (disch := omega) only [lits, negs, nI_add, nn1, leT, leF, ltT, ltF, eqF, mF1, mF2, mF3, mF4, mF5, mF6, mTT, eq_self, Nat.reduceEqDiff, ↓reduceIte, ↓jbd_s, ↓jpu_e, tI0, tI1, jgd_tI, jgd_bb, tfF, ftF, jup_at, jup_oc, jup_ok, h2, hb]
        · simp (disch := omega) only [lits, negs, nI_add, nn1, leT, leF, ltT, ltF, eqF, mF1, mF2, mF3, mF4, mF5, mF6, mTT, eq_self, Nat.reduceEqDiff, ↓reduceIte, ↓jbd_s, ↓jpu_e, tI0, tI1, jgd_tI, jgd_bb, tfF, ftF, jup_at, jup_oc, jup_ok, h2, hb]
      · unfold f_M_write
        simp only [lits, negs]
        simp (disch := omega) only [lits, negs, nI_add, nn1, leT, leF, ltT, ltF, eqF, mF1, mF2, mF3, mF4, mF5, mF6, mTT, eq_self, Nat.reduceEqDiff, ↓reduceIte, ↓jbd_s, ↓jpu_e, tI0, tI1, jgd_tI, jgd_bb, tfF, ftF, jup_at, jup_oc, jup_ok, ↓jb ew, hy1, hy2, bit1, hyw, hz1, hz2, hb]
  · -- it answers a letter
    have hni := hnm i hi
    cases hk : bt (m 42 w ||| m 75 w) i
    · have hk2 : bt (m 42 w) i = false := by
        rw [b_or] at hk
        cases z2 : bt (m 42 w) i
        · rfl
        · rw [z2] at hk; exact absurd hk (by simp)
      have eis := hisk i hi
      rw [hk] at eis
      refine Or.inr ⟨?_, ?_⟩
      · unfold f_C_mayAnswer
        simp only [lits, negs]
        by_cases h2 : z = nI 2
        · by_cases hb : b = nM
          · simp (disch := omega) only [lits, negs, nI_add, nn1, leT, leF, ltT, ltF, eqF, mF1, mF2, mF3, mF4, mF5, mF6, mTT, eq_self, Nat.reduceEqDiff, ↓reduceIte, ↓jbd_s, ↓jpu_e, tI0, tI1, jgd_tI, jgd_bb, tfF, ftF, jup_at, jup_oc, jup_ok, h2, hb, ↓ld_42, ↓jb (e_isIn (v := m 42 w) (m := m) (by omega : i < 30)), hk2]
          · simp (disch := omega) only [lits, negs, nI_add, nn1, leT, leF, ltT, ltF, eqF, mF1, mF2, mF3, mF4, mF5, mF6, mTT, eq_self, Nat.reduceEqDiff, ↓reduceIte, ↓jbd_s, ↓jpu_e, tI0, tI1, jgd_tI, jgd_bb, tfF, ftF, jup_at, jup_oc, jup_ok, h2, hb]
        · simp (disch := omega) only [lits, negs, nI_add, nn1, leT, leF, ltT, ltF, eqF, mF1, mF2, mF3, mF4, mF5, mF6, mTT, eq_self, Nat.reduceEqDiff, ↓reduceIte, ↓jbd_s, ↓jpu_e, tI0, tI1, jgd_tI, jgd_bb, tfF, ftF, jup_at, jup_oc, jup_ok, h2, hni, ↓jb ekn, ↓jb (e_isIn (v := m 42 w ||| m 75 w) (m := m) (by omega : i < 30)), hk]
      · unfold f_M_write
        simp only [lits, negs]
        simp (disch := omega) only [lits, negs, nI_add, nn1, leT, leF, ltT, ltF, eqF, mF1, mF2, mF3, mF4, mF5, mF6, mTT, eq_self, Nat.reduceEqDiff, ↓reduceIte, ↓jbd_s, ↓jpu_e, tI0, tI1, jgd_tI, jgd_bb, tfF, ftF, jup_at, jup_oc, jup_ok, ↓jb ew, hy1, hy2, bit1, hyw, hz1, hz2, hni, ↓jb eis]
    · have eis := hisk i hi
      rw [hk] at eis
      rcases ox3 b h30 with rfl | ⟨j, hj, rfl⟩ | ⟨hb1, hb2⟩
      · by_cases h2 : z = nI 2
        · by_cases hwi : m 30 i = nI w
          · have hb42 : bt (m 42 w) i = true := by rw [hbyi i hi, decide_eq_true hwi]
            refine Or.inl ⟨?_, ?_, Or.inr ⟨i, hi, rfl⟩, Or.inl rfl, fun h => absurd h hni, fun h => absurd rfl h, fun _ => hni⟩
            · unfold f_C_mayAnswer
              simp only [lits, negs]
              simp (disch := omega) only [lits, negs, nI_add, nn1, leT, leF, ltT, ltF, eqF, mF1, mF2, mF3, mF4, mF5, mF6, mTT, eq_self, Nat.reduceEqDiff, ↓reduceIte, ↓jbd_s, ↓jpu_e, tI0, tI1, jgd_tI, jgd_bb, tfF, ftF, jup_at, jup_oc, jup_ok, h2, ↓ld_42, ↓jb (e_isIn (v := m 42 w) (m := m) (by omega : i < 30)), hb42]
            · unfold f_M_write wrGo
              simp only [lits, negs]
              simp (disch := omega) only [lits, negs, nI_add, nn1, leT, leF, ltT, ltF, eqF, mF1, mF2, mF3, mF4, mF5, mF6, mTT, eq_self, Nat.reduceEqDiff, ↓reduceIte, ↓jbd_s, ↓jpu_e, tI0, tI1, jgd_tI, jgd_bb, tfF, ftF, jup_at, jup_oc, jup_ok, ↓jb ew, hy1, hy2, bit1, hyw, hz1, hz2, hni, ↓jb eis, h2, ↓ld_121, q1, hwi]
          · have hb42 : bt (m 42 w) i = false := by rw [hbyi i hi, decide_eq_false hwi]
            refine Or.inr ⟨?_, ?_⟩
            · unfold f_C_mayAnswer
              simp only [lits, negs]
              simp (disch := omega) only [lits, negs, nI_add, nn1, leT, leF, ltT, ltF, eqF, mF1, mF2, mF3, mF4, mF5, mF6, mTT, eq_self, Nat.reduceEqDiff, ↓reduceIte, ↓jbd_s, ↓jpu_e, tI0, tI1, jgd_tI, jgd_bb, tfF, ftF, jup_at, jup_oc, jup_ok, h2, ↓ld_42, ↓jb (e_isIn (v := m 42 w) (m := m) (by omega : i < 30)), hb42]
            · unfold f_M_write
              simp only [lits, negs]
              simp (disch := omega) only [lits, negs, nI_add, nn1, leT, leF, ltT, ltF, eqF, mF1, mF2, mF3, mF4, mF5, mF6, mTT, eq_self, Nat.reduceEqDiff, ↓reduceIte, ↓jbd_s, ↓jpu_e, tI0, tI1, jgd_tI, jgd_bb, tfF, ftF, jup_at, jup_oc, jup_ok, ↓jb ew, hy1, hy2, bit1, hyw, hz1, hz2, hni, ↓jb eis, h2, ↓ld_121, q1, hwi]
        · refine Or.inl ⟨?_, ?_, Or.inr ⟨i, hi, rfl⟩, Or.inl rfl, fun h => absurd h hni, fun h => absurd rfl h, fun _ => hni⟩
          · unfold f_C_mayAnswer
            simp only [lits, negs]
            simp (disch := omega) only [lits, negs, nI_add, nn1, leT, leF, ltT, ltF, eqF, mF1, mF2, mF3, mF4, mF5, mF6, mTT, eq_self, Nat.reduceEqDiff, ↓reduceIte, ↓jbd_s, ↓jpu_e, tI0, tI1, jgd_tI, jgd_bb, tfF, ftF, jup_at, jup_oc, jup_ok, h2, hni, ↓jb ekn, ↓jb (e_isIn (v := m 42 w ||| m 75 w) (m := m) (by omega : i < 30)), hk]
          · unfold f_M_write wrGo
            simp only [lits, negs]
            simp (disch := omega) only [lits, negs, nI_add, nn1, leT, leF, ltT, ltF, eqF, mF1, mF2, mF3, mF4, mF5, mF6, mTT, eq_self, Nat.reduceEqDiff, ↓reduceIte, ↓jbd_s, ↓jpu_e, tI0, tI1, jgd_tI, jgd_bb, tfF, ftF, jup_at, jup_oc, jup_ok, ↓jb ew, hy1, hy2, bit1, hyw, hz1, hz2, hni, ↓jb eis, h2]
      · have hnj := hnm j hj
        by_cases hij : j = i
        · subst hij
          refine Or.inr ⟨?_, ?_⟩
          · unfold f_C_mayAnswer
            simp only [lits, negs]
            by_cases h2 : z = nI 2
            · simp (disch := omega) only [lits, negs, nI_add, nn1, leT, leF, ltT, ltF, eqF, mF1, mF2, mF3, mF4, mF5, mF6, mTT, eq_self, Nat.reduceEqDiff, ↓reduceIte, ↓jbd_s, ↓jpu_e, tI0, tI1, jgd_tI, jgd_bb, tfF, ftF, jup_at, jup_oc, jup_ok, h2, hnj]
            · simp (disch := omega) only [lits, negs, nI_add, nn1, leT, leF, ltT, ltF, eqF, mF1, mF2, mF3, mF4, mF5, mF6, mTT, eq_self, Nat.reduceEqDiff, ↓reduceIte, ↓jbd_s, ↓jpu_e, tI0, tI1, jgd_tI, jgd_bb, tfF, ftF, jup_at, jup_oc, jup_ok, h2, hni, hnj, ↓jb ekn, ↓jb (e_isIn (v := m 42 w ||| m 75 w) (m := m) (by omega : j < 30)), hk]
          · unfold f_M_write
            simp only [lits, negs]
            simp (disch := omega) only [lits, negs, nI_add, nn1, leT, leF, ltT, ltF, eqF, mF1, mF2, mF3, mF4, mF5, mF6, mTT, eq_self, Nat.reduceEqDiff, ↓reduceIte, ↓jbd_s, ↓jpu_e, tI0, tI1, jgd_tI, jgd_bb, tfF, ftF, jup_at, jup_oc, jup_ok, ↓jb ew, hy1, hy2, bit1, hyw, hz1, hz2, hni, ↓jb eis]
        · have hij2 : ¬ nI j = nI i := by rw [eqF hij (by omega) (by omega)]; exact id
          have ejs := hisk j hj
          cases hkj : bt (m 42 w ||| m 75 w) j
          · rw [hkj] at ejs
            refine Or.inr ⟨?_, ?_⟩
            · unfold f_C_mayAnswer
              simp only [lits, negs]
              by_cases h2 : z = nI 2
              · simp (disch := omega) only [lits, negs, nI_add, nn1, leT, leF, ltT, ltF, eqF, mF1, mF2, mF3, mF4, mF5, mF6, mTT, eq_self, Nat.reduceEqDiff, ↓reduceIte, ↓jbd_s, ↓jpu_e, tI0, tI1, jgd_tI, jgd_bb, tfF, ftF, jup_at, jup_oc, jup_ok, h2, hnj]
              · simp (disch := omega) only [lits, negs, nI_add, nn1, leT, leF, ltT, ltF, eqF, mF1, mF2, mF3, mF4, mF5, mF6, mTT, eq_self, Nat.reduceEqDiff, ↓reduceIte, ↓jbd_s, ↓jpu_e, tI0, tI1, jgd_tI, jgd_bb, tfF, ftF, jup_at, jup_oc, jup_ok, h2, hni, hnj, hij2, ↓jb ekn, ↓jb (e_isIn (v := m 42 w ||| m 75 w) (m := m) (by omega : i < 30)), hk, ↓jb (e_isIn (v := m 42 w ||| m 75 w) (m := m) (by omega : j < 30)), hkj]
            · unfold f_M_write
              simp only [lits, negs]
              simp (disch := omega) only [lits, negs, nI_add, nn1, leT, leF, ltT, ltF, eqF, mF1, mF2, mF3, mF4, mF5, mF6, mTT, eq_self, Nat.reduceEqDiff, ↓reduceIte, ↓jbd_s, ↓jpu_e, tI0, tI1, jgd_tI, jgd_bb, tfF, ftF, jup_at, jup_oc, jup_ok, ↓jb ew, hy1, hy2, bit1, hyw, hz1, hz2, hni, hnj, hij2, ↓jb eis, ↓jb ejs]
          · rw [hkj] at ejs
            by_cases h2 : z = nI 2
            · refine Or.inr ⟨?_, ?_⟩
              · unfold f_C_mayAnswer
                simp only [lits, negs]
                simp (disch := omega) only [lits, negs, nI_add, nn1, leT, leF, ltT, ltF, eqF, mF1, mF2, mF3, mF4, mF5, mF6, mTT, eq_self, Nat.reduceEqDiff, ↓reduceIte, ↓jbd_s, ↓jpu_e, tI0, tI1, jgd_tI, jgd_bb, tfF, ftF, jup_at, jup_oc, jup_ok, h2, hnj]
              · unfold f_M_write
                simp only [lits, negs]
                simp (disch := omega) only [lits, negs, nI_add, nn1, leT, leF, ltT, ltF, eqF, mF1, mF2, mF3, mF4, mF5, mF6, mTT, eq_self, Nat.reduceEqDiff, ↓reduceIte, ↓jbd_s, ↓jpu_e, tI0, tI1, jgd_tI, jgd_bb, tfF, ftF, jup_at, jup_oc, jup_ok, ↓jb ew, hy1, hy2, bit1, hyw, hz1, hz2, hni, hnj, hij2, ↓jb eis, ↓jb ejs, h2]
            · refine Or.inl ⟨?_, ?_, Or.inr ⟨i, hi, rfl⟩, Or.inr ⟨j, hj, rfl⟩, fun h => absurd h hni, fun _ => hij2, fun h => absurd h h2⟩
              · unfold f_C_mayAnswer
                simp only [lits, negs]
                simp (disch := omega) only [lits, negs, nI_add, nn1, leT, leF, ltT, ltF, eqF, mF1, mF2, mF3, mF4, mF5, mF6, mTT, eq_self, Nat.reduceEqDiff, ↓reduceIte, ↓jbd_s, ↓jpu_e, tI0, tI1, jgd_tI, jgd_bb, tfF, ftF, jup_at, jup_oc, jup_ok, h2, hni, hnj, hij2, ↓jb ekn, ↓jb (e_isIn (v := m 42 w ||| m 75 w) (m := m) (by omega : i < 30)), hk, ↓jb (e_isIn (v := m 42 w ||| m 75 w) (m := m) (by omega : j < 30)), hkj]
              · unfold f_M_write wrGo
                simp only [lits, negs]
                simp (disch := omega) only [lits, negs, nI_add, nn1, leT, leF, ltT, ltF, eqF, mF1, mF2, mF3, mF4, mF5, mF6, mTT, eq_self, Nat.reduceEqDiff, ↓reduceIte, ↓jbd_s, ↓jpu_e, tI0, tI1, jgd_tI, jgd_bb, tfF, ftF, jup_at, jup_oc, jup_ok, ↓jb ew, hy1, hy2, bit1, hyw, hz1, hz2, hni, hnj, hij2, ↓jb eis, ↓jb ejs, h2]
      · have hbi : ¬ b = nI i := fun e => by
          subst e
          rcases hb2 with h | h
          · exact nI_pos (by omega) h
          · exact nI_ge hi (by omega) h
        refine Or.inr ⟨?_, ?_⟩
        · unfold f_C_mayAnswer
          simp only [lits, negs]
          by_cases h2 : z = nI 2
          · simp (disch := omega) only [lits, negs, nI_add, nn1, leT, leF, ltT, ltF, eqF, mF1, mF2, mF3, mF4, mF5, mF6, mTT, eq_self, Nat.reduceEqDiff, ↓reduceIte, ↓jbd_s, ↓jpu_e, tI0, tI1, jgd_tI, jgd_bb, tfF, ftF, jup_at, jup_oc, jup_ok, h2, hb1]
          · simp (disch := omega) only [lits, negs, nI_add, nn1, leT, leF, ltT, ltF, eqF, mF1, mF2, mF3, mF4, mF5, mF6, mTT, eq_self, Nat.reduceEqDiff, ↓reduceIte, ↓jbd_s, ↓jpu_e, tI0, tI1, jgd_tI, jgd_bb, tfF, ftF, jup_at, jup_oc, jup_ok, h2, hni, hb1, hbi, ↓jb ekn, ↓jb (e_isIn (v := m 42 w ||| m 75 w) (m := m) (by omega : i < 30)), hk, ↓jb (e_isIn_K (m := m) hKb hb2 h30)]
        · unfold f_M_write
          simp only [lits, negs]
          simp (disch := omega) only [lits, negs, nI_add, nn1, leT, leF, ltT, ltF, eqF, mF1, mF2, mF3, mF4, mF5, mF6, mTT, eq_self, Nat.reduceEqDiff, ↓reduceIte, ↓jbd_s, ↓jpu_e, tI0, tI1, jgd_tI, jgd_bb, tfF, ftF, jup_at, jup_oc, jup_ok, ↓jb ew, hy1, hy2, bit1, hyw, hz1, hz2, hni, hb1, hbi, ↓jb eis, ↓jb (hiskn b hb2)]
  · refine Or.inr ⟨?_, ?_⟩
    · unfold f_C_mayAnswer
      simp only [lits, negs]
      by_cases h2 : z = nI 2
      · by_cases hb : b = nM
        · simp (disch := omega) only [lits, negs, nI_add, nn1, leT, leF, ltT, ltF, eqF, mF1, mF2, mF3, mF4, mF5, mF6, mTT, eq_self, Nat.reduceEqDiff, ↓reduceIte, ↓jbd_s, ↓jpu_e, tI0, tI1, jgd_tI, jgd_bb, tfF, ftF, jup_at, jup_oc, jup_ok, h2, hb, ↓ld_42, ↓jb (e_isIn_K (m := m) hBb ha2 h30)]
        · simp (disch := omega) only [lits, negs, nI_add, nn1, leT, leF, ltT, ltF, eqF, mF1, mF2, mF3, mF4, mF5, mF6, mTT, eq_self, Nat.reduceEqDiff, ↓reduceIte, ↓jbd_s, ↓jpu_e, tI0, tI1, jgd_tI, jgd_bb, tfF, ftF, jup_at, jup_oc, jup_ok, h2, hb]
      · simp (disch := omega) only [lits, negs, nI_add, nn1, leT, leF, ltT, ltF, eqF, mF1, mF2, mF3, mF4, mF5, mF6, mTT, eq_self, Nat.reduceEqDiff, ↓reduceIte, ↓jbd_s, ↓jpu_e, tI0, tI1, jgd_tI, jgd_bb, tfF, ftF, jup_at, jup_oc, jup_ok, h2, ha1, ↓jb ekn, ↓jb (e_isIn_K (m := m) hKb ha2 h30)]
    · unfold f_M_write
      simp only [lits, negs]
      simp (disch := omega) only [lits, negs, nI_add, nn1, leT, leF, ltT, ltF, eqF, mF1, mF2, mF3, mF4, mF5, mF6, mTT, eq_self, Nat.reduceEqDiff, ↓reduceIte, ↓jbd_s, ↓jpu_e, tI0, tI1, jgd_tI, jgd_bb, tfF, ftF, jup_at, jup_oc, jup_ok, ↓jb ew, hy1, hy2, bit1, hyw, hz1, hz2, ha1, ↓jb (hiskn a ha2)]
