/-! an expression on both sides: all of it -/
theorem vl_70 : ∀ i, i < 25 → i < 6 ∨ (vlT (1001 + i) = 9 ↔ i = 22) ∧ (vlT (1001 + i) = 10 ↔ i = 23) ∧ (vlT (1001 + i) = 3 ↔ i = 9) ∧ (vlT (1001 + i) ≤ 2 ↔ i ≤ 8) ∧ (4 ≤ vlT (1001 + i) ∧ vlT (1001 + i) ≤ 8 ↔ 10 ≤ i ∧ i ≤ 14) ∧ (vlT (1001 + i) = 0 ↔ i = 6) ∧ (vlT (1001 + i) = 2 ↔ i = 8) := by decide +kernel
theorem vl_7 (i : Nat) (h : i < 25) (h6 : 6 ≤ i) : (vlT (1001 + i) = 9 ↔ i = 22) ∧ (vlT (1001 + i) = 10 ↔ i = 23) ∧ (vlT (1001 + i) = 3 ↔ i = 9) ∧ (vlT (1001 + i) ≤ 2 ↔ i ≤ 8) ∧ (4 ≤ vlT (1001 + i) ∧ vlT (1001 + i) ≤ 8 ↔ 10 ≤ i ∧ i ≤ 14) ∧ (vlT (1001 + i) = 0 ↔ i = 6) ∧ (vlT (1001 + i) = 2 ↔ i = 8) := (vl_70 i h).resolve_left (by omega)
theorem sg_pos {t : Nat} (h : pdT t) : ¬ sgP t = 0 := by
  rcases pdT_c h with rfl | rfl | rfl | rfl | rfl | rfl | rfl | rfl | rfl | rfl | rfl | rfl <;> decide
section XP
variable {B : Nat → Nat} {n K : Nat} {T Pl W : Nat → Int32} {hd b c0 : Nat} {s : Nat → Nat} {pc c kn o t : Nat} {due : Bool} {m M : jMem} {j : Nat}
/-- what stands between two values -/
theorem e_between {i : Nat} (hi : i < 33) (h19 : M 109 19 = nI (soT (1001 + i))) (hv : 1004 ≤ 1001 + i → M 109 20 = nI (vlT (1001 + i))) : f_M_between M = some (if 22 ≤ i ∧ ¬ i = 24 then nI (sgP (1001 + i)) else nI 0, M) := by
  obtain ⟨u1, u2, u3, u4, u5, u6⟩ := vl_2 i hi
  unfold f_M_between
  simp only [lits]
  rw [h19]
  by_cases h0 : soT (1001 + i) = 0
  · have hr := u1.mp h0
    obtain ⟨w1, w2, -⟩ := vl_7 i (by omega) (by omega)
    rw [hv (by omega), if_pos (by rw [h0])]
    by_cases q : i = 22
    · rw [if_pos (by rw [w1.mpr q]), if_pos (by omega), q]
      rfl
    · by_cases q2 : i = 23
      · rw [if_neg (fun z => q (w1.mp (nI_ij (by omega) (by omega) z))), if_pos (by rw [w2.mpr q2]), if_pos (by omega), q2]
        rfl
      · rw [if_neg (fun z => q (w1.mp (nI_ij (by omega) (by omega) z))), if_neg (fun z => q2 (w2.mp (nI_ij (by omega) (by omega) z))), if_neg (by omega)]
  · rw [if_neg (fun z => h0 (nI_ij (by omega) (by omega) z))]
    by_cases h2 : soT (1001 + i) = 2
    · have hr := u3.mp h2
      obtain ⟨w1, w2, w3⟩ := vl_6 i hi hr
      rw [if_pos (by rw [h2]), hv (by omega)]
      by_cases q : i = 4
      · rw [if_pos (by rw [w1.mpr q]), if_neg (by omega)]
      · rw [if_neg (fun z => q (w1.mp (nI_ij (by omega) (by omega) z)))]
        by_cases q2 : i = 5
        · rw [if_pos (by rw [w2.mpr q2]), if_neg (by omega)]
        · rw [if_neg (fun z => q2 (w2.mp (nI_ij (by omega) (by omega) z)))]
          by_cases q3 : i = 3
          · subst q3
            have e : f_M_bind (nI (vlT (1001 + 3))) M = some (nI 0, M) := by
              rw [show vlT (1001 + 3) = 59 by decide]
              unfold f_M_bind
              simp (disch := omega) only [lits, negs, nI_add, nn1, leT, leF, ltT, ltF, eqF, mF1, mF2, mF3, mF4, mF5, mF6, mTT, eq_self, Nat.reduceEqDiff, ↓reduceIte, jbd_s, jpu_e, tI0, tI1, jgd_tI, jgd_bb, tfF, ftF, jup_at, jup_oc, jup_ok]
            rw [e, jbd_s, if_pos (by decide), if_neg (by omega)]
          · have hs : sgP (1001 + i) = vlT (1001 + i) := by
              unfold sgP
              rw [if_neg (by omega), vl_5 i hi (by omega), if_neg (by omega), if_neg (by omega)]
            have e := e_bind (M := M) (t := 1001 + i) (Or.inr (by omega))
            have hp := rk_p (t := 1001 + i) (Or.inr (by omega))
            rw [hs] at e
            rw [e, jbd_s, if_neg (nI_ge (by omega) (by omega)), if_pos (by omega), hs, hv (by omega)]
    · rw [if_neg (fun z => h2 (nI_ij (by omega) (by omega) z)), if_neg (fun z => ?_)]
      by_cases y : 25 ≤ i
      · exact h2 (u3.mpr (Or.inr y))
      · exact h0 (u1.mpr (by omega))
theorem sim_expr (hh : hd = 3 ∨ hd = 12) (ts : TS B n K T Pl W) {k106 k109 : jMem → Option (Unit × jMem)} : ∀ (d i f f' : Nat) (due : Bool) (m M : jMem) (j : Nat), j + d = K → i ≤ j → d + 2 < f → d + 3 < f' → EXs B n K T Pl W hd b c0 due m M j → ∃ m' M', lp_R_takeExpression_29 k106 f (nI i) m = k106 m' ∧ lp_M_expression_14 k109 f' (tI (!due)) (nI 1) M = k109 M' ∧ frE hd c0 m m' ∧ frF c0 M M' ∧ ((∃ j', j ≤ j' ∧ EXs B n K T Pl W hd b c0 false m' M' j') ∨ FX hd m' M') := by
  intro d
  induction d with
  | zero =>
    intro i f f' due m M j hj hij hf hf' hx
    obtain ⟨s, pc, c, kn, o, hc0, h⟩ := hx
    obtain ⟨f, rfl⟩ := ex_succ (by omega : 0 < f)
    obtain ⟨f', rfl⟩ := ex_succ (by omega : 0 < f')
    have hjK : j = K := by omega
    have hn4 := ts.n4
    have hKn := ts.Kn
    have hT : T j = nI 1001 := by rw [hjK]; exact ts.tK
    have htok : m 21 2 = nI 1001 := h.tx.tok.trans hT
    cases due
    · -- nothing joins any more
      obtain ⟨τ, t1, t2, t3, h19, -, hval, -⟩ := h.tx.tk
      have hτ : τ = 1001 := nI_ij (by omega) (by omega) (t3.symm.trans hT)
      subst hτ
      refine ⟨m, M, ?_, ?_, frE.rf, frF.rf, Or.inl ⟨j, Nat.le_refl j, s, pc, c, kn, o, hc0, h⟩⟩
      · rw [lp_R_takeExpression_29]
        simp only [lits]
        rw [h.tx.cn, if_neg (nI_ge (by omega) (by omega)), h.f0, if_pos rfl, h.du, if_pos tI_f, htok, nI_clamp (by omega), jgd_ok (by omega) (by omega), if_neg (by decide), jgd_tk (by omega), jlt_e, show jtkP 1001 = nI 0 by decide, if_neg (by decide)]
      · obtain ⟨f', rfl⟩ := ex_succ (by omega : 0 < f')
        have eB := e_between (M := M) (i := 0) (by omega) h19 (fun z => absurd z (by omega))
        rw [if_neg (by omega)] at eB
        have eS : f_M_isSign (nI 41) M = some (nI 0, M) := e_isSign (sv := 3) (by omega) h19 false (fun z => absurd z Bool.false_ne_true) (fun _ => Or.inl (by omega))
        rw [lp_M_expression_14]
        simp only [lits]
        rw [h.f1, if_pos rfl, if_neg (by decide), if_neg (by decide), eB, jbd_s, if_pos rfl, eS, jbd_s, if_pos rfl, lp_M_expression_14]
        simp only [lits]
        rw [h.f1, if_pos rfl, if_pos trivial]
    · obtain ⟨m1, M1, x, g1, g2, g3, g4, g5⟩ := sim_value (c0 := c0) hh ts h hc0
      rcases g5 with ⟨due', -, s', pc', c', kn', o', -, g6⟩ | ⟨g5, g6⟩
      · have := g6.tx.jK; omega
      · refine ⟨m1, M1, ?_, ?_, g3, g4, Or.inr g6⟩
        · obtain ⟨f, rfl⟩ := ex_succ (by omega : 0 < f)
          obtain ⟨⟨k, k1, k2, k3, k4⟩, -⟩ := g6
          rw [lp_R_takeExpression_29]
          simp only [lits]
          rw [h.tx.cn, if_neg (nI_ge (by omega) (by omega)), h.f0, if_pos rfl, h.du, if_neg (by decide), g1, jbd_s, nI_add, lp_R_takeExpression_29]
          simp only [lits]
          by_cases z : m1 24 5 ≤ nI (i + 1)
          · rw [if_pos z]
          · rw [if_neg z, k3, if_neg (fun z => by have := nI_ij (by omega) (by omega) z; omega)]
        · obtain ⟨f', rfl⟩ := ex_succ (by omega : 0 < f')
          obtain ⟨⟨k, k1, k2, k3, k4⟩, -⟩ := g6
          rw [lp_M_expression_14]
          simp only [lits]
          rw [h.f1, if_pos rfl, if_neg (by decide), if_pos (show (tI !true) = nI 0 from rfl), g2, jbd_s, lp_M_expression_14]
          simp only [lits]
          rw [k4, if_neg (fun z => by have := nI_ij (by omega) (by omega) z; omega)]
  | succ d ih =>
    intro i f f' due m M j hj hij hf hf' hx
    obtain ⟨s, pc, c, kn, o, hc0, h⟩ := hx
    obtain ⟨f, rfl⟩ := ex_succ (by omega : 0 < f)
    obtain ⟨f', rfl⟩ := ex_succ (by omega : 0 < f')
    have hn4 := ts.n4
    have hKn := ts.Kn
    have stopC : ∀ m1 M1, FX hd m1 M1 → lp_R_takeExpression_29 k106 f (nI (i + 1)) m1 = k106 m1 := fun m1 M1 g => by
      obtain ⟨f, rfl⟩ := ex_succ (by omega : 0 < f)
      obtain ⟨⟨k, k1, k2, k3, k4⟩, -⟩ := g
      rw [lp_R_takeExpression_29]
      simp only [lits]
      by_cases z : m1 24 5 ≤ nI (i + 1)
      · rw [if_pos z]
      · rw [if_neg z, k3, if_neg (fun z => by have := nI_ij (by omega) (by omega) z; omega)]
    have stopM : ∀ m1 M1 x y, FX hd m1 M1 → lp_M_expression_14 k109 f' x y M1 = k109 M1 := fun m1 M1 x y g => by
      obtain ⟨f', rfl⟩ := ex_succ (by omega : 0 < f')
      obtain ⟨⟨k, k1, k2, k3, k4⟩, -⟩ := g
      rw [lp_M_expression_14]
      simp only [lits]
      rw [k4, if_neg (fun z => by have := nI_ij (by omega) (by omega) z; omega)]
    cases due
    · obtain ⟨τ, t1, t2, hT, h19, -, hval, -⟩ := h.tx.tk
      obtain ⟨x, rfl⟩ : ∃ x, τ = 1001 + x := ⟨τ - 1001, by omega⟩
      obtain ⟨v1, v2, v3⟩ := vl_1 x (by omega)
      obtain ⟨u1, u2, u3, u4, u5, u6⟩ := vl_2 x (by omega)
      have htok : m 21 2 = nI (1001 + x) := h.tx.tok.trans hT
      have hP := (rk_e (t := 1001 + x) (by omega)).2.2
      have eB := e_between (M := M) (i := x) (by omega) h19 hval
      by_cases qj : 22 ≤ x ∧ ¬ x = 24
      · -- it joins
        rw [if_pos qj] at eB
        obtain ⟨m1, M1, g1, g2, g3, g4, g5⟩ := sim_joint (c0 := c0) hh ts h hc0 hT (by omega) (by omega)
        have hsg : ¬ nI (sgP (1001 + x)) = nI 0 := fun z => by
          have b4 := (rk_p (t := 1001 + x) (Or.inr (by omega))).2.2.2
          have e0 := nI_ij (by omega) (by omega) z
          exact sg_pos (Or.inr (by omega)) e0
        have eC : lp_R_takeExpression_29 k106 (f + 1) (nI i) m = lp_R_takeExpression_29 k106 f (nI (i + 1)) m1 := by
          rw [lp_R_takeExpression_29]
          simp only [lits]
          rw [h.tx.cn, if_neg (nI_ge (by omega) (by omega)), h.f0, if_pos rfl, h.du, if_pos tI_f, htok, nI_clamp (by omega), jgd_ok (by omega) (by omega), if_neg (by omega), jgd_tk (by omega), jlt_e, hP.1, v2.mpr qj, if_pos rfl, g1, jbd_s, nI_add]
        have eM : lp_M_expression_14 k109 (f' + 1) (tI (!false)) (nI 1) M = lp_M_expression_14 k109 f' (nI 0) (nI 1) M1 := by
          rw [lp_M_expression_14]
          simp only [lits]
          rw [h.f1, if_pos rfl, if_neg (by decide), if_neg (by decide), eB, jbd_s, if_neg hsg, g2, jbd_s]
        rcases g5 with g5 | g5
        · obtain ⟨m', M', w1, w2, w3, w4, w5⟩ := ih (i + 1) f f' true m1 M1 (j + 1) (by omega) (by omega) (by omega) (by omega) g5
          exact ⟨m', M', eC.trans w1, eM.trans w2, g3.tr w3, g4.tr w4, w5.imp (fun ⟨j', a, b⟩ => ⟨j', Nat.le_of_succ_le a, b⟩) id⟩
        · exact ⟨m1, M1, eC.trans (stopC _ _ g5), eM.trans (stopM _ _ _ _ g5), g3, g4, Or.inr g5⟩
      · rw [if_neg qj] at eB
        have hp3 : ¬ ptT (1001 + x) = 3 := fun z => qj (v2.mp z)
        by_cases q5 : x = 5 ∧ 0 < o
        · obtain ⟨q5, ho⟩ := q5
          subst q5
          obtain ⟨m1, M2, M1, g1, g2, g3, g4, g5, g6⟩ := sim_close (c0 := c0) hh ts h hc0 hT ho
          have eS : f_M_isSign (nI 41) M = some (nI 1, M) := e_isSign (sv := 2) (by omega) h19 true (fun _ => ⟨rfl, hval (by omega)⟩) (fun z => absurd z.symm Bool.false_ne_true)
          have ho8 := h.o3
          obtain ⟨m', M', w1, w2, w3, w4, w5⟩ := ih (i + 1) f f' false m1 M1 (j + 1) (by omega) (by omega) (by omega) (by omega) g6
          refine ⟨m', M', Eq.trans ?_ w1, Eq.trans ?_ w2, g4.tr w3, g5.tr w4, w5.imp (fun ⟨j', a, b⟩ => ⟨j', Nat.le_of_succ_le a, b⟩) id⟩
          · rw [lp_R_takeExpression_29]
            simp only [lits]
            rw [h.tx.cn, if_neg (nI_ge (by omega) (by omega)), h.f0, if_pos rfl, h.du, if_pos tI_f, htok, nI_clamp (by omega), jgd_ok (by omega) (by omega), if_pos rfl, h.o1, if_neg (nI_ge (by omega) (by omega)), g1, jbd_s, nI_add]
          · rw [lp_M_expression_14]
            simp only [lits]
            rw [h.f1, if_pos rfl, if_neg (by decide), if_neg (by decide), eB, jbd_s, if_pos rfl, eS, jbd_s, if_neg (by decide), h.o2, if_neg (nI_ge (by omega) (by omega)), g2, jbd_s, jpu_e, jpu_e, g3, jbd_s]
        · -- the end of it
          refine ⟨m, M, ?_, ?_, frE.rf, frF.rf, Or.inl ⟨j, Nat.le_refl j, s, pc, c, kn, o, hc0, h⟩⟩
          · rw [lp_R_takeExpression_29]
            simp only [lits]
            rw [h.tx.cn, if_neg (nI_ge (by omega) (by omega)), h.f0, if_pos rfl, h.du, if_pos tI_f, htok, nI_clamp (by omega), jgd_ok (by omega) (by omega)]
            by_cases q6 : x = 5
            · have ho0 : o = 0 := by omega
              rw [if_pos (by omega), h.o1, ho0, if_pos (by decide), jgd_tk (by omega), jlt_e, hP.1, if_neg (fun z => hp3 (nI_ij (by omega) (by omega) z))]
            · rw [if_neg (by omega), jgd_tk (by omega), jlt_e, hP.1, if_neg (fun z => hp3 (nI_ij (by omega) (by omega) z))]
          · obtain ⟨f', rfl⟩ := ex_succ (by omega : 0 < f')
            have hfin : lp_M_expression_14 k109 (f' + 1) (tI (!false)) (nI 0) M = k109 M := by
              rw [lp_M_expression_14]
              simp only [lits]
              rw [h.f1, if_pos rfl, if_pos trivial]
            rw [lp_M_expression_14]
            simp only [lits]
            rw [h.f1, if_pos rfl, if_neg (by decide), if_neg (by decide), eB, jbd_s, if_pos rfl]
            by_cases q6 : x = 5
            · have ho0 : o = 0 := by omega
              subst q6
              have eS : f_M_isSign (nI 41) M = some (nI 1, M) := e_isSign (sv := 2) (by omega) h19 true (fun _ => ⟨rfl, hval (by omega)⟩) (fun z => absurd z.symm Bool.false_ne_true)
              rw [eS, jbd_s, if_neg (by decide), h.o2, ho0, if_pos (by decide)]
              exact hfin
            · have eS : f_M_isSign (nI 41) M = some (nI 0, M) := by
                refine e_isSign (by omega) h19 false (fun z => absurd z Bool.false_ne_true) (fun _ => ?_)
                by_cases z : soT (1001 + x) = 2
                · have hr := u3.mp z
                  refine Or.inr ?_
                  rw [hval (by omega)]
                  exact fun y => q6 ((vl_6 x (by omega) hr).2.1.mp (nI_ij (by omega) (by omega) y))
                · exact Or.inl z
              rw [eS, jbd_s, if_pos rfl]
              exact hfin
    · obtain ⟨m1, M1, x, g1, g2, g3, g4, g5⟩ := sim_value (c0 := c0) hh ts h hc0
      have eC : lp_R_takeExpression_29 k106 (f + 1) (nI i) m = lp_R_takeExpression_29 k106 f (nI (i + 1)) m1 := by
        rw [lp_R_takeExpression_29]
        simp only [lits]
        rw [h.tx.cn, if_neg (nI_ge (by omega) (by omega)), h.f0, if_pos rfl, h.du, if_neg (by decide), g1, jbd_s, nI_add]
      have eM : lp_M_expression_14 k109 (f' + 1) (tI (!true)) (nI 1) M = lp_M_expression_14 k109 f' x (nI 1) M1 := by
        rw [lp_M_expression_14]
        simp only [lits]
        rw [h.f1, if_pos rfl, if_neg (by decide), if_pos (show (tI !true) = nI 0 from rfl), g2, jbd_s]
      rcases g5 with ⟨due', g5, g6⟩ | ⟨g5, g6⟩
      · obtain ⟨m', M', w1, w2, w3, w4, w5⟩ := ih (i + 1) f f' due' m1 M1 (j + 1) (by omega) (by omega) (by omega) (by omega) g6
        exact ⟨m', M', eC.trans w1, eM.trans (by rw [g5]; exact w2), g3.tr w3, g4.tr w4, w5.imp (fun ⟨j', a, b⟩ => ⟨j', Nat.le_of_succ_le a, b⟩) id⟩
      · exact ⟨m1, M1, eC.trans (stopC _ _ g6), eM.trans (stopM _ _ _ _ g6), g3, g4, Or.inr g6⟩
end XP
