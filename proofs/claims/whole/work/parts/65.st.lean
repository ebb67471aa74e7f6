/-! what a change leaves alone -/
def rng (W : List (Nat × Nat)) (a b : Nat) : Bool := (List.range (b - a + 1)).all fun i => W.all fun q => !(q.1 == a + i)
theorem fr_row {W : List (Nat × Nat)} {m m' : jMem} (h : jfr W m m') {c : Nat} (hc : (W.all fun q => !(q.1 == c)) = true) : m' c = m c := by
  funext k
  refine h c k ?_
  unfold jfo
  rw [List.all_eq_true] at hc ⊢
  intro q hq
  have h1 := hc q hq
  cases h2 : (q.1 == c)
  · rfl
  · rw [h2] at h1; exact absurd h1 (by decide)
theorem fr_rg {W : List (Nat × Nat)} {m m' : jMem} (h : jfr W m m') {a b : Nat} (hh : rng W a b = true) (c : Nat) (h1 : a ≤ c) (h2 : c ≤ b) : m' c = m c := by
  have h3 := List.all_eq_true.mp hh (c - a) (List.mem_range.mpr (by omega))
  rw [show a + (c - a) = c by omega] at h3
  exact fr_row h h3
theorem fr_at {W : List (Nat × Nat)} {m m' : jMem} (h : jfr W m m') {c k : Nat} (hc : jfo W c k = true) : m' c k = m c k := h c k hc
section FRG
variable {W : List (Nat × Nat)} {N C : Nat} {m m' : jMem}
theorem RL_fr (h : jfr W m m') (hc : (jfo W 29 15 && jfo W 109 33 && rng W 30 43 && rng W 121 128) = true) (r : RL N m) : RL N m' := by
  simp only [Bool.and_eq_true] at hc
  exact RL_cong (h _ _ hc.1.1.1) (h _ _ hc.1.1.2) (fr_rg h hc.1.2) (fr_rg h hc.2) r
theorem RB_fr (h : jfr W m m') (hc : (jfo W 29 16 && jfo W 109 43 && rng W 129 129) = true) (r : RB N m) : RB N m' := by
  simp only [Bool.and_eq_true] at hc
  exact RB_cong (h _ _ hc.1.1) (h _ _ hc.1.2) (fr_rg h hc.2 129 (by omega) (by omega)) r
theorem RT_fr (h : jfr W m m') (hc : (jfo W 1 1 && jfo W 109 2 && rng W 2 2 && rng W 110 110) = true) (r : RT m) : RT m' := by
  simp only [Bool.and_eq_true] at hc
  exact RT_cong (h _ _ hc.1.1.1) (h _ _ hc.1.1.2) (fr_rg h hc.1.2 2 (by omega) (by omega)) (fr_rg h hc.2 110 (by omega) (by omega)) r
theorem RD_fr (h : jfr W m m') (hc : (jfo W 1 6 && jfo W 109 31) = true) (r : RD m) : RD m' := by
  simp only [Bool.and_eq_true] at hc
  exact RD_cong (h _ _ hc.1) (h _ _ hc.2) r
theorem RW_fr (h : jfr W m m') (hc : (rng W 120 120 && rng W 47 59) = true) (r : RW m) : RW m' := by
  simp only [Bool.and_eq_true] at hc
  exact RW_cong (fr_rg h hc.1 120 (by omega) (by omega)) (fr_rg h hc.2) r
theorem RS_fr (h : jfr W m m') (hc : (jfo W 45 2 && jfo W 45 3 && jfo W 45 4 && jfo W 109 50 && jfo W 109 51 && jfo W 109 52) = true) (r : RS m) : RS m' := by
  simp only [Bool.and_eq_true] at hc
  exact RS_cong (h _ _ hc.1.1.1.1.1) (h _ _ hc.1.1.1.1.2) (h _ _ hc.1.1.1.2) (h _ _ hc.1.1.2) (h _ _ hc.1.2) (h _ _ hc.2) r
theorem RC_fr (h : jfr W m m') (hc : (jfo W 45 10 && jfo W 109 44 && rng W 60 64 && rng W 130 134) = true) (r : RC N C m) : RC N C m' := by
  simp only [Bool.and_eq_true] at hc
  exact RC_cong (h _ _ hc.1.1.1) (h _ _ hc.1.1.2) (fr_rg h hc.1.2) (fr_rg h hc.2) r
theorem RK_fr (h : jfr W m m') (hc : (rng W 30 31 && rng W 42 42 && rng W 75 75 && rng W 77 82 && rng W 135 136 && jfo W 109 57) = true) (r : RK N m) : RK N m' := by
  simp only [Bool.and_eq_true] at hc
  exact RK_cong (fr_rg h hc.1.1.1.1.1 30 (by omega) (by omega)) (fr_rg h hc.1.1.1.1.1 31 (by omega) (by omega)) (fr_rg h hc.1.1.1.1.2 42 (by omega) (by omega)) (fr_rg h hc.1.1.1.2 75 (by omega) (by omega)) (fr_rg h hc.1.1.2) (fr_rg h hc.1.2 135 (by omega) (by omega)) (fr_rg h hc.1.2 136 (by omega) (by omega)) (h _ _ hc.2) r
theorem RH_fr (h : jfr W m m') (hc : (rng W 30 30 && rng W 67 75 && rng W 137 138) = true) (r : RH N m) : RH N m' := by
  simp only [Bool.and_eq_true] at hc
  exact RH_cong (fr_rg h hc.1.1 30 (by omega) (by omega)) (fr_rg h hc.1.2) (fr_rg h hc.2 137 (by omega) (by omega)) (fr_rg h hc.2 138 (by omega) (by omega)) r
theorem RP_fr (h : jfr W m m') (hc : (jfo W 89 3 && jfo W 109 64 && rng W 90 91 && rng W 144 145) = true) (r : RP N m) : RP N m' := by
  simp only [Bool.and_eq_true] at hc
  exact RP_cong (h _ _ hc.1.1.1) (h _ _ hc.1.1.2) (fr_rg h hc.1.2 90 (by omega) (by omega)) (fr_rg h hc.1.2 91 (by omega) (by omega)) (fr_rg h hc.2 144 (by omega) (by omega)) (fr_rg h hc.2 145 (by omega) (by omega)) r
theorem RX_fr (h : jfr W m m') (hc : (jfo W 1 2 && jfo W 1 3 && jfo W 109 23 && jfo W 21 4 && jfo W 109 24 && jfo W 21 5 && jfo W 109 6 && jfo W 109 11 && rng W 3 10 && rng W 12 19 && rng W 111 116) = true) (r : RX m) : RX m' := by
  simp only [Bool.and_eq_true] at hc
  obtain ⟨⟨⟨⟨⟨⟨⟨⟨⟨⟨a1, a2⟩, a3⟩, a4⟩, a5⟩, a6⟩, a7⟩, a8⟩, a9⟩, a10⟩, a11⟩ := hc
  refine RX_cong (h _ _ a1) (h _ _ a2) (h _ _ a3) (h _ _ a4) (h _ _ a5) (h _ _ a6) (h _ _ a7) (h _ _ a8) (fun c c1 c2 c3 => ?_) (fr_rg h a11) r
  rcases Nat.lt_or_ge c 11 with q | q
  · exact fr_rg h a9 c c1 (by omega)
  · exact fr_rg h a10 c (by omega) c2
end FRG
theorem fr_two {A B : List (Nat × Nat)} {m m1 m2 : jMem} (h1 : jfr A m m1) (h2 : jfr B m1 m2) : jfr (A ++ B) m m2 := by
  intro c k hk
  unfold jfo at hk
  rw [List.all_append, Bool.and_eq_true] at hk
  exact (h2 c k hk.2).trans (h1 c k hk.1)
/-- a change: both answer, and the relation stands -/
def Ost (fC fM : jMem → Option (Int32 × jMem)) (m : jMem) : Prop := ∃ v M1 M2 N C, fC m = some (v, M1) ∧ fM M1 = some (v, M2) ∧ Rel N C M2
theorem Ost.of {fC fM : jMem → Option (Int32 × jMem)} {m M1 M2 : jMem} {v : Int32} {N C : Nat} (h1 : fC m = some (v, M1)) (h2 : fM M1 = some (v, M2)) (h3 : Rel N C M2) : Ost fC fM m := ⟨v, M1, M2, N, C, h1, h2, h3⟩
/-- nothing but the mark is written -/
theorem Ost.no {fC fM : jMem → Option (Int32 × jMem)} {m : jMem} {v : Int32} {N C : Nat} (r : Rel N C m) (h1 : fC m = some (v, m)) (h2 : fM m = some (v, jup m 109 0 (nI 0))) : Ost fC fM m := ⟨v, m, _, N, C, h1, h2, Rel_scr (thr_scr m _) r⟩
/-! split, lose -/
theorem o_split {N C : Nat} {m : jMem} (r : Rel N C m) (x y z : Int32) : Ost (f_C_split x y z) (f_M_split x y z) m := by
  have hno : (x < nI 0 ∨ nI 63 < x ∨ y < nI 0 ∨ z < y ∨ ¬ z < nI 999) → f_C_split x y z m = some (nI 0, m) ∧ f_M_split x y z m = some (nI 0, jup m 109 0 (nI 0)) := fun h => by
    have hz : nI 998 < z ↔ ¬ z < nI 999 := by
      rw [Int32.lt_iff_toInt_lt, Int32.lt_iff_toInt_lt, nI_toInt (by omega), nI_toInt (by omega)]; omega
    have hyz : y ≤ z ↔ ¬ z < y := by rw [Int32.not_lt]
    constructor
    · unfold f_C_split
      simp only [lits]
      by_cases h1 : x < nI 0
      · rw [if_pos h1]
      · rw [if_neg h1]
        by_cases h2 : nI 63 < x
        · rw [if_pos h2]
        · rw [if_neg h2]
          by_cases h3 : y < nI 0
          · rw [if_pos h3]
          · rw [if_neg h3]
            by_cases h4 : z < y
            · rw [if_pos h4]
            · rw [if_neg h4]
              by_cases h5 : z < nI 999
              · exfalso
                rcases h with h | h | h | h | h
                · exact h1 h
                · exact h2 h
                · exact h3 h
                · exact h4 h
                · exact h h5
              · rw [if_neg h5]
    · unfold f_M_split
      simp only [lits, jpu_e]
      by_cases h1 : x < nI 0
      · rw [if_pos h1]
      · rw [if_neg h1]
        by_cases h2 : nI 63 < x
        · rw [if_pos h2]
        · rw [if_neg h2]
          by_cases h3 : y < nI 0
          · rw [if_pos h3]
          · rw [if_neg h3]
            by_cases h5 : nI 998 < z
            · rw [if_pos h5]
            · rw [if_neg h5]
              by_cases h4 : y ≤ z
              · exfalso
                rcases h with h | h | h | h | h
                · exact h1 h
                · exact h2 h
                · exact h3 h
                · exact hyz.mp h4 h
                · exact h5 (hz.mpr h)
              · rw [if_neg h4]
  by_cases h : x < nI 0 ∨ nI 63 < x ∨ y < nI 0 ∨ z < y ∨ ¬ z < nI 999
  · exact Ost.no r (hno h).1 (hno h).2
  · simp only [not_or, Classical.not_not] at h
    obtain ⟨h1, h2, h3, h4, h5⟩ := h
    obtain ⟨a, ha, rfl⟩ : ∃ a : Nat, a ≤ 998 ∧ z = nI a := by
      have h0 : ¬ z < nI 0 := fun q => by
        rw [Int32.lt_iff_toInt_lt] at q h3 h4
        omega
      refine nI_of2 (M := nI 998) (n := 998) (nI_toInt (by omega)) h0 ?_
      rw [Int32.lt_iff_toInt_lt, nI_toInt (by omega)] at h5
      rw [Int32.le_iff_toInt_le, nI_toInt (by omega)]
      omega
    obtain ⟨b, hb, rfl⟩ := nI_of2 (x := y) (M := nI a) (n := a) (nI_toInt (by omega)) h3 (Int32.not_lt.mp h4)
    have eC : f_C_split x (nI b) (nI a) m = some (nI 1, jup (jup (jup m 45 2 x) 45 3 (nI b)) 45 4 (nI a)) := by
      unfold f_C_split f_P_setSplit
      simp (disch := omega) only [lits, negs, nI_add, nn1, leT, leF, ltT, ltF, eqF, mF1, mF2, mF3, mF4, mF5, mF6, mTT, eq_self, Nat.reduceEqDiff, ↓reduceIte, jbd_s, jpu_e, tI0, tI1, jgd_tI, jgd_bb, tfF, ftF, jup_at, jup_oc, jup_ok, h1, h2]
    generalize hM1 : jup (jup (jup m 45 2 x) 45 3 (nI b)) 45 4 (nI a) = M1 at eC
    have eM : f_M_split x (nI b) (nI a) M1 = some (nI 1, jup (jup (jup (jup M1 109 0 (nI 0)) 109 50 x) 109 51 (nI b)) 109 52 (nI a)) := by
      unfold f_M_split
      simp (disch := omega) only [lits, negs, nI_add, nn1, leT, leF, ltT, ltF, eqF, mF1, mF2, mF3, mF4, mF5, mF6, mTT, eq_self, Nat.reduceEqDiff, ↓reduceIte, jbd_s, jpu_e, tI0, tI1, jgd_tI, jgd_bb, tfF, ftF, jup_at, jup_oc, jup_ok, h1, h2]
    have fr := fr_two (fr_C_split eC) (fr_M_split eM)
    refine Ost.of (N := N) (C := C) eC eM ⟨RL_fr fr rfl r.1, RB_fr fr rfl r.2.1, RT_fr fr rfl r.2.2.1, RD_fr fr rfl r.2.2.2.1, RW_fr fr rfl r.2.2.2.2.1, ?_, RC_fr fr rfl r.2.2.2.2.2.2.1, RK_fr fr rfl r.2.2.2.2.2.2.2.1, RH_fr fr rfl r.2.2.2.2.2.2.2.2.1, RP_fr fr rfl r.2.2.2.2.2.2.2.2.2.1, RX_fr fr rfl r.2.2.2.2.2.2.2.2.2.2⟩
    unfold RS RS2
    subst hM1
    refine ⟨?_, b, a, by omega, by omega, ?_, ?_, ?_, ?_⟩ <;> simp (disch := omega) only [lits, negs, nI_add, nn1, leT, leF, ltT, ltF, eqF, mF1, mF2, mF3, mF4, mF5, mF6, mTT, eq_self, Nat.reduceEqDiff, ↓reduceIte, jbd_s, jpu_e, tI0, tI1, jgd_tI, jgd_bb, tfF, ftF, jup_at, jup_oc, jup_ok]
theorem e_underC {N C c : Nat} {m : jMem} (rc : RC N C m) (hc : c < C) : f_P_isUnderWay (nI c) m = some (tI (decide (m 64 c = nI 0)), m) := by
  obtain ⟨hC, c1, -⟩ := rc
  unfold f_P_isUnderWay f_P_isCopy
  simp (disch := omega) only [lits, negs, nI_add, nn1, leT, leF, ltT, ltF, eqF, mF1, mF2, mF3, mF4, mF5, mF6, mTT, eq_self, Nat.reduceEqDiff, ↓reduceIte, jbd_s, jpu_e, tI0, tI1, jgd_tI, jgd_bb, tfF, ftF, jup_at, jup_oc, jup_ok, c1, ld_64]
  by_cases h : m 64 c = nI 0
  · rw [if_pos h, decide_eq_true h]; rfl
  · rw [if_neg h, decide_eq_false h]; rfl
theorem e_underM {N C c : Nat} {m : jMem} (rc : RC N C m) (hc : c < C) : f_M_isUnderWay (nI c) m = some (tI (decide (m 64 c = nI 0)), m) := by
  obtain ⟨hC, -, c2, ⟨-, -, -, -, c7⟩, -⟩ := rc
  unfold f_M_isUnderWay
  simp (disch := omega) only [lits, negs, nI_add, nn1, leT, leF, ltT, ltF, eqF, mF1, mF2, mF3, mF4, mF5, mF6, mTT, eq_self, Nat.reduceEqDiff, ↓reduceIte, jbd_s, jpu_e, tI0, tI1, jgd_tI, jgd_bb, tfF, ftF, jup_at, jup_oc, jup_ok, c2, ld_134, c7]
  by_cases h : m 64 c = nI 0
  · rw [if_pos h, decide_eq_true h]; rfl
  · rw [if_neg h, decide_eq_false h]; rfl
theorem e_underC_no {N C : Nat} {x : Int32} {m : jMem} (rc : RC N C m) (hx : x < nI 0 ∨ nI C ≤ x) : f_P_isUnderWay x m = some (nI 0, m) := by
  obtain ⟨hC, c1, -⟩ := rc
  have e : f_P_isCopy x m = some (nI 0, m) := by
    unfold f_P_isCopy
    simp only [lits, c1]
    rcases hx with h | h
    · rw [if_pos h]
    · rw [if_pos h]
      split <;> rfl
  unfold f_P_isUnderWay
  simp (disch := omega) only [lits, negs, nI_add, nn1, leT, leF, ltT, ltF, eqF, mF1, mF2, mF3, mF4, mF5, mF6, mTT, eq_self, Nat.reduceEqDiff, ↓reduceIte, jbd_s, jpu_e, tI0, tI1, jgd_tI, jgd_bb, tfF, ftF, jup_at, jup_oc, jup_ok, e]
theorem e_underM_no {N C : Nat} {x : Int32} {m : jMem} (rc : RC N C m) (hx : x < nI 0 ∨ nI C ≤ x) : f_M_isUnderWay x m = some (nI 0, m) := by
  obtain ⟨hC, -, c2, -⟩ := rc
  unfold f_M_isUnderWay
  simp only [lits, c2]
  rcases hx with h | h
  · rw [if_pos h]
  · rw [if_pos h]
    split <;> rfl
theorem o_lose {N C : Nat} {m : jMem} (r : Rel N C m) (x : Int32) : Ost (f_C_lose x) (f_M_lose x) m := by
  have rc := r.2.2.2.2.2.2.1
  have rc1 := RC_scr (thr_scr m (nI 0)) rc
  rcases ixN x (n := C) (by have := rc.1; omega) with hx | ⟨c, hc, rfl⟩
  · refine Ost.no (v := nI 0) r ?_ ?_
    · unfold f_C_lose
      simp (disch := omega) only [lits, negs, nI_add, nn1, leT, leF, ltT, ltF, eqF, mF1, mF2, mF3, mF4, mF5, mF6, mTT, eq_self, Nat.reduceEqDiff, ↓reduceIte, jbd_s, jpu_e, tI0, tI1, jgd_tI, jgd_bb, tfF, ftF, jup_at, jup_oc, jup_ok, e_underC_no rc hx]
    · unfold f_M_lose
      simp (disch := omega) only [lits, negs, nI_add, nn1, leT, leF, ltT, ltF, eqF, mF1, mF2, mF3, mF4, mF5, mF6, mTT, eq_self, Nat.reduceEqDiff, ↓reduceIte, jbd_s, jpu_e, tI0, tI1, jgd_tI, jgd_bb, tfF, ftF, jup_at, jup_oc, jup_ok, e_underM_no rc1 hx]
  · by_cases h0 : m 64 c = nI 0
    · have hC := rc.1
      have eC : f_C_lose (nI c) m = some (nI 1, jup m 64 c (nI 2)) := by
        unfold f_C_lose
        simp (disch := omega) only [lits, negs, nI_add, nn1, leT, leF, ltT, ltF, eqF, mF1, mF2, mF3, mF4, mF5, mF6, mTT, eq_self, Nat.reduceEqDiff, ↓reduceIte, jbd_s, jpu_e, tI0, tI1, jgd_tI, jgd_bb, tfF, ftF, jup_at, jup_oc, jup_ok, e_underC rc hc, decide_eq_true h0, tI_t, st_64]
      have eM : f_M_lose (nI c) (jup m 64 c (nI 2)) = some (nI 1, jup (jup (jup m 64 c (nI 2)) 109 0 (nI 0)) 134 c (nI 2)) := by
        obtain ⟨-, -, c2, ⟨-, -, -, -, c7⟩, -⟩ := rc
        have e : f_M_isUnderWay (nI c) (jup (jup m 64 c (nI 2)) 109 0 (nI 0)) = some (nI 1, jup (jup m 64 c (nI 2)) 109 0 (nI 0)) := by
          unfold f_M_isUnderWay
          simp (disch := omega) only [lits, negs, nI_add, nn1, leT, leF, ltT, ltF, eqF, mF1, mF2, mF3, mF4, mF5, mF6, mTT, eq_self, Nat.reduceEqDiff, ↓reduceIte, jbd_s, jpu_e, tI0, tI1, jgd_tI, jgd_bb, tfF, ftF, jup_at, jup_oc, jup_ok, c2, ld_134, c7, h0]
        unfold f_M_lose
        simp (disch := omega) only [lits, negs, nI_add, nn1, leT, leF, ltT, ltF, eqF, mF1, mF2, mF3, mF4, mF5, mF6, mTT, eq_self, Nat.reduceEqDiff, ↓reduceIte, jbd_s, jpu_e, tI0, tI1, jgd_tI, jgd_bb, tfF, ftF, jup_at, jup_oc, jup_ok, e, st_134]
      have fr := fr_two (fr_C_lose eC) (fr_M_lose eM)
      refine Ost.of (N := N) (C := C) eC eM ⟨RL_fr fr rfl r.1, RB_fr fr rfl r.2.1, RT_fr fr rfl r.2.2.1, RD_fr fr rfl r.2.2.2.1, RW_fr fr rfl r.2.2.2.2.1, RS_fr fr rfl r.2.2.2.2.2.1, ?_, RK_fr fr rfl r.2.2.2.2.2.2.2.1, RH_fr fr rfl r.2.2.2.2.2.2.2.2.1, RP_fr fr rfl r.2.2.2.2.2.2.2.2.2.1, RX_fr fr rfl r.2.2.2.2.2.2.2.2.2.2⟩
      obtain ⟨-, c1, c2, ⟨r1, r2, r3, r4, r5⟩, rr⟩ := rc
      refine ⟨hC, by simp (disch := omega) only [lits, negs, nI_add, nn1, leT, leF, ltT, ltF, eqF, mF1, mF2, mF3, mF4, mF5, mF6, mTT, eq_self, Nat.reduceEqDiff, ↓reduceIte, jbd_s, jpu_e, tI0, tI1, jgd_tI, jgd_bb, tfF, ftF, jup_at, jup_oc, jup_ok, c1], by simp (disch := omega) only [lits, negs, nI_add, nn1, leT, leF, ltT, ltF, eqF, mF1, mF2, mF3, mF4, mF5, mF6, mTT, eq_self, Nat.reduceEqDiff, ↓reduceIte, jbd_s, jpu_e, tI0, tI1, jgd_tI, jgd_bb, tfF, ftF, jup_at, jup_oc, jup_ok, c2], ⟨by simp (disch := omega) only [lits, negs, nI_add, nn1, leT, leF, ltT, ltF, eqF, mF1, mF2, mF3, mF4, mF5, mF6, mTT, eq_self, Nat.reduceEqDiff, ↓reduceIte, jbd_s, jpu_e, tI0, tI1, jgd_tI, jgd_bb, tfF, ftF, jup_at, jup_oc, jup_ok, r1], by simp (disch := omega) only [lits, negs, nI_add, nn1, leT, leF, ltT, ltF, eqF, mF1, mF2, mF3, mF4, mF5, mF6, mTT, eq_self, Nat.reduceEqDiff, ↓reduceIte, jbd_s, jpu_e, tI0, tI1, jgd_tI, jgd_bb, tfF, ftF, jup_at, jup_oc, jup_ok, r2], by simp (disch := omega) only [lits, negs, nI_add, nn1, leT, leF, ltT, ltF, eqF, mF1, mF2, mF3, mF4, mF5, mF6, mTT, eq_self, Nat.reduceEqDiff, ↓reduceIte, jbd_s, jpu_e, tI0, tI1, jgd_tI, jgd_bb, tfF, ftF, jup_at, jup_oc, jup_ok, r3], by simp (disch := omega) only [lits, negs, nI_add, nn1, leT, leF, ltT, ltF, eqF, mF1, mF2, mF3, mF4, mF5, mF6, mTT, eq_self, Nat.reduceEqDiff, ↓reduceIte, jbd_s, jpu_e, tI0, tI1, jgd_tI, jgd_bb, tfF, ftF, jup_at, jup_oc, jup_ok, r4], ?_⟩, fun k hk => ?_⟩
      · simp (disch := omega) only [lits, negs, nI_add, nn1, leT, leF, ltT, ltF, eqF, mF1, mF2, mF3, mF4, mF5, mF6, mTT, eq_self, Nat.reduceEqDiff, ↓reduceIte, jbd_s, jpu_e, tI0, tI1, jgd_tI, jgd_bb, tfF, ftF, jup_at, jup_oc, jup_ok, jup_row, r5]
      · obtain ⟨g1, g2, g3, g4, g5⟩ := rr k hk
        refine ⟨by simp (disch := omega) only [lits, negs, nI_add, nn1, leT, leF, ltT, ltF, eqF, mF1, mF2, mF3, mF4, mF5, mF6, mTT, eq_self, Nat.reduceEqDiff, ↓reduceIte, jbd_s, jpu_e, tI0, tI1, jgd_tI, jgd_bb, tfF, ftF, jup_at, jup_oc, jup_ok]; exact g1, by simp (disch := omega) only [lits, negs, nI_add, nn1, leT, leF, ltT, ltF, eqF, mF1, mF2, mF3, mF4, mF5, mF6, mTT, eq_self, Nat.reduceEqDiff, ↓reduceIte, jbd_s, jpu_e, tI0, tI1, jgd_tI, jgd_bb, tfF, ftF, jup_at, jup_oc, jup_ok]; exact g2, by simp (disch := omega) only [lits, negs, nI_add, nn1, leT, leF, ltT, ltF, eqF, mF1, mF2, mF3, mF4, mF5, mF6, mTT, eq_self, Nat.reduceEqDiff, ↓reduceIte, jbd_s, jpu_e, tI0, tI1, jgd_tI, jgd_bb, tfF, ftF, jup_at, jup_oc, jup_ok]; exact g3, by simp (disch := omega) only [lits, negs, nI_add, nn1, leT, leF, ltT, ltF, eqF, mF1, mF2, mF3, mF4, mF5, mF6, mTT, eq_self, Nat.reduceEqDiff, ↓reduceIte, jbd_s, jpu_e, tI0, tI1, jgd_tI, jgd_bb, tfF, ftF, jup_at, jup_oc, jup_ok]; exact g4, ?_⟩
        by_cases q : k = c
        · subst q
          exact ⟨2, by omega, by simp (disch := omega) only [lits, negs, nI_add, nn1, leT, leF, ltT, ltF, eqF, mF1, mF2, mF3, mF4, mF5, mF6, mTT, eq_self, Nat.reduceEqDiff, ↓reduceIte, jbd_s, jpu_e, tI0, tI1, jgd_tI, jgd_bb, tfF, ftF, jup_at, jup_oc, jup_ok]⟩
        · simp (disch := omega) only [lits, negs, nI_add, nn1, leT, leF, ltT, ltF, eqF, mF1, mF2, mF3, mF4, mF5, mF6, mTT, eq_self, Nat.reduceEqDiff, ↓reduceIte, jbd_s, jpu_e, tI0, tI1, jgd_tI, jgd_bb, tfF, ftF, jup_at, jup_oc, jup_ok, q]
          exact g5
    · refine Ost.no (v := nI 0) r ?_ ?_
      · unfold f_C_lose
        simp (disch := omega) only [lits, negs, nI_add, nn1, leT, leF, ltT, ltF, eqF, mF1, mF2, mF3, mF4, mF5, mF6, mTT, eq_self, Nat.reduceEqDiff, ↓reduceIte, jbd_s, jpu_e, tI0, tI1, jgd_tI, jgd_bb, tfF, ftF, jup_at, jup_oc, jup_ok, e_underC rc hc, decide_eq_false h0, tI_f]
      · have e := e_underM rc1 hc
        have q : jup m 109 0 (nI 0) 64 c = m 64 c := by rw [jup_oc (by omega)]
        rw [q, decide_eq_false h0] at e
        unfold f_M_lose
        simp (disch := omega) only [lits, negs, nI_add, nn1, leT, leF, ltT, ltF, eqF, mF1, mF2, mF3, mF4, mF5, mF6, mTT, eq_self, Nat.reduceEqDiff, ↓reduceIte, jbd_s, jpu_e, tI0, tI1, jgd_tI, jgd_bb, tfF, ftF, jup_at, jup_oc, jup_ok, e, tI_f]
