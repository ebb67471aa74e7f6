/-! from two memories to one -/
section TWO
variable {N C : Nat} {m m' M M' : jMem}
theorem Rel2_M (e : ∀ c, 109 ≤ c → M' c = M c) (r : Rel2 N C m M) : Rel2 N C m M' := by
  obtain ⟨r1, r2, r3, r4, r5, r6, r7, r8, r9, r10, r11⟩ := r
  refine ⟨?_, ?_, ?_, ?_, ?_, ?_, ?_, ?_, ?_, ?_, ?_⟩
  · unfold RL2
    rw [e 109 (by omega), e 121 (by omega), e 122 (by omega), e 123 (by omega), e 124 (by omega), e 125 (by omega), e 126 (by omega), e 127 (by omega), e 128 (by omega)]
    exact r1
  · unfold RB2
    rw [e 109 (by omega), e 129 (by omega)]
    exact r2
  · unfold RT2
    rw [e 109 (by omega), e 110 (by omega)]
    exact r3
  · unfold RD2
    rw [e 109 (by omega)]
    exact r4
  · unfold RW2
    rw [e 120 (by omega)]
    exact r5
  · unfold RS2
    rw [e 109 (by omega)]
    exact r6
  · unfold RC2
    rw [e 109 (by omega), e 130 (by omega), e 131 (by omega), e 132 (by omega), e 133 (by omega), e 134 (by omega)]
    exact r7
  · unfold RK2 RKw2
    rw [e 109 (by omega), e 135 (by omega), e 136 (by omega)]
    exact r8
  · unfold RH2 RHw2
    rw [e 137 (by omega), e 138 (by omega)]
    exact r9
  · unfold RP2
    rw [e 109 (by omega), e 144 (by omega), e 145 (by omega)]
    exact r10
  · unfold RX2 RXh2
    rw [e 109 (by omega), e 111 (by omega), e 112 (by omega), e 113 (by omega), e 114 (by omega), e 115 (by omega), e 116 (by omega)]
    exact r11
theorem Rel2_C (e : ∀ c, c < 109 → m' c = m c) (r : Rel2 N C m M) : Rel2 N C m' M := by
  obtain ⟨r1, r2, r3, r4, r5, r6, r7, r8, r9, r10, r11⟩ := r
  refine ⟨?_, ?_, ?_, ?_, ?_, ?_, ?_, ?_, ?_, ?_, ?_⟩
  · obtain ⟨a1, a2, a3, a4, a5, a6, a7⟩ := r1
    refine ⟨a1, by rw [e 29 (by omega)]; exact a2, a3, ?_, fun l hl => RLl_cong (fun c _ _ => e c (by omega)) (a5 l hl), ?_, ?_⟩
    · rw [e 30 (by omega), e 31 (by omega), e 32 (by omega), e 33 (by omega), e 34 (by omega), e 35 (by omega), e 36 (by omega), e 37 (by omega)]
      exact a4
    · rw [e 42 (by omega), e 30 (by omega)]; exact a6
    · rw [e 43 (by omega), e 33 (by omega)]; exact a7
  · unfold RB2
    rw [e 29 (by omega)]
    exact r2
  · unfold RT2
    rw [e 1 (by omega), e 2 (by omega)]
    exact r3
  · unfold RD2
    rw [e 1 (by omega)]
    exact r4
  · obtain ⟨W, w1, w2⟩ := r5
    refine ⟨W, fun a ha b hb => ?_, w2⟩
    rw [e (47 + a) (by omega), e (54 + a) (by omega)]
    exact w1 a ha b hb
  · unfold RS2
    rw [e 45 (by omega)]
    exact r6
  · unfold RC2
    rw [e 45 (by omega), e 60 (by omega), e 61 (by omega), e 62 (by omega), e 63 (by omega), e 64 (by omega)]
    exact r7
  · obtain ⟨k1, k2⟩ := r8
    refine ⟨fun w hw => ?_, by rw [e 75 (by omega)]; exact k2⟩
    unfold RKw2
    rw [e 42 (by omega), e 75 (by omega), e 30 (by omega), e 31 (by omega), e (77 + w) (by omega)]
    exact k1 w hw
  · intro w hw
    have := r9 w hw
    unfold RHw2 at this ⊢
    rw [e 73 (by omega), e 74 (by omega), e 75 (by omega), e 30 (by omega), e (67 + w) (by omega)]
    exact this
  · unfold RP2
    rw [e 89 (by omega), e 90 (by omega), e 91 (by omega)]
    exact r10
  · exact RX2_fr ⟨by rw [e 1 (by omega)], by rw [e 1 (by omega)], by rw [e 21 (by omega)], by rw [e 21 (by omega)], fun c _ _ _ => e c (by omega)⟩ ⟨rfl, rfl, rfl, rfl, fun _ _ _ => rfl⟩ r11
end TWO
theorem fr_lo {W : List (Nat × Nat)} {m m' : jMem} (h : jfr W m m') (hW : (W.all fun q => decide (109 ≤ q.1)) = true) (c : Nat) (hc : c < 109) : m' c = m c := by
  refine fr_row h ?_
  rw [List.all_eq_true] at hW ⊢
  intro q hq
  have := of_decide_eq_true (hW q hq)
  cases z : (q.1 == c)
  · rfl
  · have := beq_iff_eq.mp z; omega
theorem fr_hi {W : List (Nat × Nat)} {m m' : jMem} (h : jfr W m m') (hW : (W.all fun q => decide (q.1 < 109)) = true) (c : Nat) (hc : 109 ≤ c) : m' c = m c := by
  refine fr_row h ?_
  rw [List.all_eq_true] at hW ⊢
  intro q hq
  have := of_decide_eq_true (hW q hq)
  cases z : (q.1 == c)
  · rfl
  · have := beq_iff_eq.mp z; omega
theorem Ost.two {fC fM : jMem → Option (Int32 × jMem)} {N C : Nat} {m : jMem} {WC WM : List (Nat × Nat)} (r : Rel N C m) (h : ∀ M, Rel2 N C m M → ∃ v m' M' N' C', fC m = some (v, m') ∧ fM M = some (v, M') ∧ Rel2 N' C' m' M') (hC : ∀ {m x}, fC m = some x → jfr WC m x.2) (hM : ∀ {m x}, fM m = some x → jfr WM m x.2) (cC : (WC.all fun q => decide (q.1 < 109)) = true) (cM : (WM.all fun q => decide (109 ≤ q.1)) = true) : Ost fC fM m := by
  obtain ⟨v, m', -, -, -, e1, -, -⟩ := h m r
  have f1 := hC e1
  obtain ⟨v2, m2, M', N', C', e2, e3, r2⟩ := h m' (Rel2_M (fr_hi f1 cC) r)
  rw [e1] at e2
  cases e2
  have f2 := hM e3
  exact ⟨v, m', M', N', C', e1, e3, Rel2_C (fr_lo f2 cM) r2⟩
theorem thr_two {N C : Nat} {m M : jMem} {v : Int32} (r : Rel2 N C m M) : Rel2 N C m (jup M 109 0 v) := by
  obtain ⟨r1, r2, r3, r4, r5, r6, r7, r8, r9, r10, r11⟩ := r
  have e : ∀ k, k ≠ 0 → jup M 109 0 v 109 k = M 109 k := fun k hk => jup_ok hk
  have er : ∀ c, c ≠ 109 → jup M 109 0 v c = M c := fun c hc => jup_oc hc
  refine ⟨?_, ?_, ?_, ?_, ?_, ?_, ?_, ?_, ?_, ?_, ?_⟩
  · unfold RL2
    rw [e 33 (by omega), er 121 (by omega), er 122 (by omega), er 123 (by omega), er 124 (by omega), er 125 (by omega), er 126 (by omega), er 127 (by omega), er 128 (by omega)]
    exact r1
  · unfold RB2
    rw [e 43 (by omega), er 129 (by omega)]
    exact r2
  · unfold RT2
    rw [e 2 (by omega), er 110 (by omega)]
    exact r3
  · unfold RD2
    rw [e 31 (by omega)]
    exact r4
  · unfold RW2
    rw [er 120 (by omega)]
    exact r5
  · unfold RS2
    rw [e 50 (by omega), e 51 (by omega), e 52 (by omega)]
    exact r6
  · unfold RC2
    rw [e 44 (by omega), er 130 (by omega), er 131 (by omega), er 132 (by omega), er 133 (by omega), er 134 (by omega)]
    exact r7
  · unfold RK2 RKw2
    rw [e 57 (by omega), er 135 (by omega), er 136 (by omega)]
    exact r8
  · unfold RH2 RHw2
    rw [er 137 (by omega), er 138 (by omega)]
    exact r9
  · unfold RP2
    rw [e 64 (by omega), er 144 (by omega), er 145 (by omega)]
    exact r10
  · unfold RX2 RXh2
    rw [e 23 (by omega), e 24 (by omega), e 6 (by omega), e 11 (by omega), er 111 (by omega), er 112 (by omega), er 113 (by omega), er 114 (by omega), er 115 (by omega), er 116 (by omega)]
    exact r11
theorem e_hasRoom {N C : Nat} {y : Int32} {M : jMem} (hN : M 109 33 = nI N) (h30 : N ≤ 30) (hC : M 109 44 = nI C) (hC2 : C ≤ 150) (hy : bt y 31 = false) : f_M_hasRoom y M = some (tI (decide (N < 30) && decide (C + pcnt y ≤ 150)), M) := by
  have hp := pcnt_le y
  unfold f_M_hasRoom
  by_cases h : N < 30
  · by_cases h2 : C + pcnt y ≤ 150
    · simp (disch := omega) only [lits, negs, nI_add, nn1, leT, leF, ltT, ltF, eqF, mF1, mF2, mF3, mF4, mF5, mF6, mTT, eq_self, Nat.reduceEqDiff, ↓reduceIte, jbd_s, jpu_e, tI0, tI1, jgd_tI, jgd_bb, tfF, ftF, jup_at, jup_oc, jup_ok, hN, e_MbitsP hy, hC, decide_eq_true h, decide_eq_true h2]
      rfl
    · simp (disch := omega) only [lits, negs, nI_add, nn1, leT, leF, ltT, ltF, eqF, mF1, mF2, mF3, mF4, mF5, mF6, mTT, eq_self, Nat.reduceEqDiff, ↓reduceIte, jbd_s, jpu_e, tI0, tI1, jgd_tI, jgd_bb, tfF, ftF, jup_at, jup_oc, jup_ok, hN, e_MbitsP hy, hC, decide_eq_false h2, Bool.and_false]
      rfl
  · simp (disch := omega) only [lits, negs, nI_add, nn1, leT, leF, ltT, ltF, eqF, mF1, mF2, mF3, mF4, mF5, mF6, mTT, eq_self, Nat.reduceEqDiff, ↓reduceIte, jbd_s, jpu_e, tI0, tI1, jgd_tI, jgd_bb, tfF, ftF, jup_at, jup_oc, jup_ok, hN, decide_eq_false h, Bool.false_and]
    rfl
theorem o_write {N C : Nat} {m : jMem} (r : Rel N C m) (x y z a b : Int32) : Ost (f_C_write x y z a b) (f_M_write x y z a b) m := by
  have h30 := r.1.1
  rcases ixW x with hx | ⟨w, hw, rfl⟩
  · refine Ost.no (v := nM) r ?_ ?_
    · unfold f_C_write
      simp (disch := omega) only [lits, negs, nI_add, nn1, leT, leF, ltT, ltF, eqF, mF1, mF2, mF3, mF4, mF5, mF6, mTT, eq_self, Nat.reduceEqDiff, ↓reduceIte, jbd_s, jpu_e, tI0, tI1, jgd_tI, jgd_bb, tfF, ftF, jup_at, jup_oc, jup_ok, e_isWriter_no hx]
    · unfold f_M_write
      simp only [lits, negs]
      simp (disch := omega) only [lits, negs, nI_add, nn1, leT, leF, ltT, ltF, eqF, mF1, mF2, mF3, mF4, mF5, mF6, mTT, eq_self, Nat.reduceEqDiff, ↓reduceIte, ↓jbd_s, ↓jpu_e, tI0, tI1, jgd_tI, jgd_bb, tfF, ftF, jup_at, jup_oc, jup_ok, ↓jb (e_MisWriter_no (m := jup m 109 0 (nI 0)) hx)]
  · have ew := e_MisWriter (w := w) (m := jup m 109 0 (nI 0)) hw
    have ewC := e_isWriter (w := w) (m := m) hw
    by_cases hbad : z < nI 0 ∨ ¬ z ≤ nI 2 ∨ y < nI 1 ∨ nI 63 < y ∨ bt y w = true
    · refine Ost.no (v := nM) r ?_ ?_
      · unfold f_C_write
        simp only [lits, negs]
        by_cases h1 : z < nI 0
        · simp (disch := omega) only [lits, negs, nI_add, nn1, leT, leF, ltT, ltF, eqF, mF1, mF2, mF3, mF4, mF5, mF6, mTT, eq_self, Nat.reduceEqDiff, ↓reduceIte, ↓jbd_s, ↓jpu_e, tI0, tI1, jgd_tI, jgd_bb, tfF, ftF, jup_at, jup_oc, jup_ok, ↓jb ewC, h1]
        · by_cases h2 : z ≤ nI 2
          · by_cases h3 : y < nI 1
            · simp (disch := omega) only [lits, negs, nI_add, nn1, leT, leF, ltT, ltF, eqF, mF1, mF2, mF3, mF4, mF5, mF6, mTT, eq_self, Nat.reduceEqDiff, ↓reduceIte, ↓jbd_s, ↓jpu_e, tI0, tI1, jgd_tI, jgd_bb, tfF, ftF, jup_at, jup_oc, jup_ok, ↓jb ewC, h1, h2, h3]
            · by_cases h4 : nI 63 < y
              · simp (disch := omega) only [lits, negs, nI_add, nn1, leT, leF, ltT, ltF, eqF, mF1, mF2, mF3, mF4, mF5, mF6, mTT, eq_self, Nat.reduceEqDiff, ↓reduceIte, ↓jbd_s, ↓jpu_e, tI0, tI1, jgd_tI, jgd_bb, tfF, ftF, jup_at, jup_oc, jup_ok, ↓jb ewC, h1, h2, h3, h4]
              · cases h5 : bt y w
                · exfalso
                  rcases hbad with h | h | h | h | h
                  · exact h1 h
                  · exact h h2
                  · exact h3 h
                  · exact h4 h
                  · rw [h5] at h; exact absurd h (by decide)
                · simp (disch := omega) only [lits, negs, nI_add, nn1, leT, leF, ltT, ltF, eqF, mF1, mF2, mF3, mF4, mF5, mF6, mTT, eq_self, Nat.reduceEqDiff, ↓reduceIte, ↓jbd_s, ↓jpu_e, tI0, tI1, jgd_tI, jgd_bb, tfF, ftF, jup_at, jup_oc, jup_ok, ↓jb ewC, h1, h2, h3, h4, ↓jb (e_isIn (v := y) (m := m) (by omega : w < 30)), h5]
          · simp (disch := omega) only [lits, negs, nI_add, nn1, leT, leF, ltT, ltF, eqF, mF1, mF2, mF3, mF4, mF5, mF6, mTT, eq_self, Nat.reduceEqDiff, ↓reduceIte, ↓jbd_s, ↓jpu_e, tI0, tI1, jgd_tI, jgd_bb, tfF, ftF, jup_at, jup_oc, jup_ok, ↓jb ewC, h1, h2]
      · unfold f_M_write
        simp only [lits, negs]
        by_cases h3 : y < nI 1
        · simp (disch := omega) only [lits, negs, nI_add, nn1, leT, leF, ltT, ltF, eqF, mF1, mF2, mF3, mF4, mF5, mF6, mTT, eq_self, Nat.reduceEqDiff, ↓reduceIte, ↓jbd_s, ↓jpu_e, tI0, tI1, jgd_tI, jgd_bb, tfF, ftF, jup_at, jup_oc, jup_ok, ↓jb ew, h3]
        · by_cases h4 : nI 63 < y
          · simp (disch := omega) only [lits, negs, nI_add, nn1, leT, leF, ltT, ltF, eqF, mF1, mF2, mF3, mF4, mF5, mF6, mTT, eq_self, Nat.reduceEqDiff, ↓reduceIte, ↓jbd_s, ↓jpu_e, tI0, tI1, jgd_tI, jgd_bb, tfF, ftF, jup_at, jup_oc, jup_ok, ↓jb ew, h3, h4]
          · cases h5 : bt y w
            · by_cases h1 : z < nI 0
              · simp (disch := omega) only [lits, negs, nI_add, nn1, leT, leF, ltT, ltF, eqF, mF1, mF2, mF3, mF4, mF5, mF6, mTT, eq_self, Nat.reduceEqDiff, ↓reduceIte, ↓jbd_s, ↓jpu_e, tI0, tI1, jgd_tI, jgd_bb, tfF, ftF, jup_at, jup_oc, jup_ok, ↓jb ew, h3, h4, bit1, h5, h1]
              · by_cases h2 : z ≤ nI 2
                · exfalso
                  rcases hbad with h | h | h | h | h
                  · exact h1 h
                  · exact h h2
                  · exact h3 h
                  · exact h4 h
                  · rw [h5] at h; exact absurd h (by decide)
                · simp (disch := omega) only [lits, negs, nI_add, nn1, leT, leF, ltT, ltF, eqF, mF1, mF2, mF3, mF4, mF5, mF6, mTT, eq_self, Nat.reduceEqDiff, ↓reduceIte, ↓jbd_s, ↓jpu_e, tI0, tI1, jgd_tI, jgd_bb, tfF, ftF, jup_at, jup_oc, jup_ok, ↓jb ew, h3, h4, bit1, h5, h1, h2]
            · simp (disch := omega) only [lits, negs, nI_add, nn1, leT, leF, ltT, ltF, eqF, mF1, mF2, mF3, mF4, mF5, mF6, mTT, eq_self, Nat.reduceEqDiff, ↓reduceIte, ↓jbd_s, ↓jpu_e, tI0, tI1, jgd_tI, jgd_bb, tfF, ftF, jup_at, jup_oc, jup_ok, ↓jb ew, h3, h4, bit1, h5]
    · simp only [not_or, Classical.not_not] at hbad
      obtain ⟨h1, h2, h3, h4, h5⟩ := hbad
      have h5' : bt y w = false := by cases q : bt y w; rfl; exact absurd q h5
      -- the receivers are a number below 64
      have hy0 : ¬ y < 0 := fun q => by
        rw [Int32.lt_iff_toInt_lt] at q h3
        rw [nI_toInt (by omega)] at h3
        have : (0 : Int32).toInt = 0 := rfl
        omega
      have hyb : ∃ n : Nat, n ≤ 63 ∧ y = nI n := nI_of2 (M := nI 63) (n := 63) (nI_toInt (by omega)) hy0 (Int32.not_lt.mp h4)
      have hy6 : ∀ j, bt y j = true → j < 6 := fun j hj => by
        obtain ⟨n, hn, rfl⟩ := hyb
        have hj32 := bt_big hj
        rw [bt_nI hj32] at hj
        rcases Nat.lt_or_ge j 6 with q | q
        · exact q
        · rw [Nat.testBit_lt_two_pow (Nat.lt_of_lt_of_le (by omega : n < 2 ^ 6) (Nat.pow_le_pow_right (by omega) q))] at hj
          exact absurd hj (by decide)
      have hy31 : bt y 31 = false := by
        cases q : bt y 31
        · rfl
        · have := hy6 31 q; omega
      have hkd : ∃ k, k ≤ 2 ∧ z = nI k := nI_of2 (M := nI 2) (n := 2) (nI_toInt (by omega)) h1 h2
      have hK : ∀ M, Rel2 N C m M → ∀ j, bt (m 42 w ||| m 75 w) j = true → j < N := fun M r j hj => by
        rw [b_or, Bool.or_eq_true] at hj
        rcases hj with hj | hj
        · exact ((r.1.2.2.2.2.2.1 w hw j).mp hj).1
        · exact ((r.2.2.2.2.2.2.2.1.1 w hw).2.1 j hj).1
      refine Ost.two r (fun M r2 => ?_) fr_C_write fr_M_write rfl rfl
      have rc := r2.2.2.2.2.2.2.1
      rcases wr_cases (a := a) (b := b) r2.1 r2.2.2.2.2.2.2.2.1 hw h3 h4 h5' h1 h2 with ⟨g1, g2, g3, g4, g5, g6, g7⟩ | ⟨g1, g2⟩
      · have er := e_hasRoom (y := y) (M := jup M 109 0 (nI 0)) (by rw [jup_ok (by omega)]; exact r2.1.2.2.1) h30 (by rw [jup_ok (by omega)]; exact rc.2.2.1) rc.1 hy31
        by_cases hroom : N < 30 ∧ C + pcnt y ≤ 150
        · obtain ⟨m', M', C', e1, e2, e3, -⟩ := sim_enter (kd := z) (to := y) (one := a) (oth := b) (thr_two (v := nI 0) r2) ⟨hroom.1, hw, hkd, h5', hy6, g3, g4, g5, g6, g7, hK M r2⟩ hroom.2
          rw [decide_eq_true hroom.1, decide_eq_true hroom.2] at er
          refine ⟨nI N, m', M', N + 1, C', ?_, ?_, e3⟩
          · unfold f_C_write
            simp only [lits, negs]
            simp (disch := omega) only [lits, negs, nI_add, nn1, leT, leF, ltT, ltF, eqF, mF1, mF2, mF3, mF4, mF5, mF6, mTT, eq_self, Nat.reduceEqDiff, ↓reduceIte, ↓jbd_s, ↓jpu_e, tI0, tI1, jgd_tI, jgd_bb, tfF, ftF, jup_at, jup_oc, jup_ok, ↓jb ewC, h1, h2, h3, h4, ↓jb (e_isIn (v := y) (m := m) (by omega : w < 30)), h5', ↓jb g1, ↓jb e1]
          · rw [g2]
            unfold wrGo
            simp (disch := omega) only [lits, negs, nI_add, nn1, leT, leF, ltT, ltF, eqF, mF1, mF2, mF3, mF4, mF5, mF6, mTT, eq_self, Nat.reduceEqDiff, ↓reduceIte, ↓jbd_s, ↓jpu_e, tI0, tI1, jgd_tI, jgd_bb, tfF, ftF, jup_at, jup_oc, jup_ok, ↓jb er, ↓jb e2]
            rw [e3.1.2.2.1, nn1]
            rfl
        · have er0 : (decide (N < 30) && decide (C + pcnt y ≤ 150)) = false := by
            by_cases q : N < 30
            · rw [decide_eq_false (fun z => hroom ⟨q, z⟩), Bool.and_false]
            · rw [decide_eq_false q, Bool.false_and]
          rw [er0] at er
          refine ⟨nM, m, jup M 109 0 (nI 0), N, C, ?_, ?_, thr_two r2⟩
          · have e0 : f_C_enter (nI w) y z a b m = some (nM, m) := by
              unfold f_C_enter
              have hp := pcnt_le y
              have hC2 := rc.1
              simp only [lits, negs]
              by_cases q : N < 30
              · have q2 : ¬ C + pcnt y ≤ 150 := fun z => hroom ⟨q, z⟩
                simp (disch := omega) only [lits, negs, nI_add, nn1, leT, leF, ltT, ltF, eqF, mF1, mF2, mF3, mF4, mF5, mF6, mTT, eq_self, Nat.reduceEqDiff, ↓reduceIte, ↓jbd_s, ↓jpu_e, tI0, tI1, jgd_tI, jgd_bb, tfF, ftF, jup_at, jup_oc, jup_ok, r2.1.2.1, ↓jb (e_bitCount (x := y) (m := m)), rc.2.1]
              · simp (disch := omega) only [lits, negs, nI_add, nn1, leT, leF, ltT, ltF, eqF, mF1, mF2, mF3, mF4, mF5, mF6, mTT, eq_self, Nat.reduceEqDiff, ↓reduceIte, ↓jbd_s, ↓jpu_e, tI0, tI1, jgd_tI, jgd_bb, tfF, ftF, jup_at, jup_oc, jup_ok, r2.1.2.1]
            unfold f_C_write
            simp only [lits, negs]
            simp (disch := omega) only [lits, negs, nI_add, nn1, leT, leF, ltT, ltF, eqF, mF1, mF2, mF3, mF4, mF5, mF6, mTT, eq_self, Nat.reduceEqDiff, ↓reduceIte, ↓jbd_s, ↓jpu_e, tI0, tI1, jgd_tI, jgd_bb, tfF, ftF, jup_at, jup_oc, jup_ok, ↓jb ewC, h1, h2, h3, h4, ↓jb (e_isIn (v := y) (m := m) (by omega : w < 30)), h5', ↓jb g1, ↓jb e0]
          · rw [g2]
            unfold wrGo
            simp (disch := omega) only [lits, negs, nI_add, nn1, leT, leF, ltT, ltF, eqF, mF1, mF2, mF3, mF4, mF5, mF6, mTT, eq_self, Nat.reduceEqDiff, ↓reduceIte, ↓jbd_s, ↓jpu_e, tI0, tI1, jgd_tI, jgd_bb, tfF, ftF, jup_at, jup_oc, jup_ok, ↓jb er]
      · refine ⟨nM, m, jup M 109 0 (nI 0), N, C, ?_, g2, thr_two r2⟩
        unfold f_C_write
        simp only [lits, negs]
        simp (disch := omega) only [lits, negs, nI_add, nn1, leT, leF, ltT, ltF, eqF, mF1, mF2, mF3, mF4, mF5, mF6, mTT, eq_self, Nat.reduceEqDiff, ↓reduceIte, ↓jbd_s, ↓jpu_e, tI0, tI1, jgd_tI, jgd_bb, tfF, ftF, jup_at, jup_oc, jup_ok, ↓jb ewC, h1, h2, h3, h4, ↓jb (e_isIn (v := y) (m := m) (by omega : w < 30)), h5', ↓jb g1]
