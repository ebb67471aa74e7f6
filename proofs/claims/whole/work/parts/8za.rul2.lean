/-! a line of read, on both sides: all of it -/
theorem b_63 {w : Nat} : bt (nI 63) w = decide (w < 6) := by
  rcases Nat.lt_or_ge w 32 with h | h
  · exact (by decide +kernel : ∀ w, w < 32 → bt (nI 63) w = decide (w < 6)) w h
  · rw [b_big h, decide_eq_false (by omega)]
section RV
variable {B : Nat → Nat} {n K : Nat} {T Pl W : Nat → Int32} {hd c H L : Nat} {m M : jMem} {j : Nat}
theorem sim_rule (hh : hd = 3 ∨ hd = 12) (ts : TS B n K T Pl W) (h : LX B n K T Pl W hd m M j c H L) (hT : T j = nI 1007) : ∃ m' M', f_R_takeRule m = some ((), m') ∧ f_M_line M = some ((), M') ∧ frL hd m m' ∧ frN M M' ∧ ((∃ j', j < j' ∧ LX B n K T Pl W hd m' M' j' c H (L + 1)) ∨ FF m' M') := by
  have n4 := ts.n4
  have Kn := ts.Kn
  have hj := tok_rg h.tx hT ts (by omega) (by omega)
  obtain ⟨τ0, a1, a2, a3, h19, -, hv0, -⟩ := h.tx.tk
  obtain rfl : τ0 = 1007 := nI_ij (by omega) (by omega) (a3.symm.trans hT)
  have h19 : M 109 19 = nI 0 := h19
  have h20 : M 109 20 = nI 0 := hv0 (by omega)
  obtain ⟨M1, p1, p2, p3, tx1⟩ := h.tx.step ts hj
  obtain ⟨τ, t1, t2, hT1, k19, -, k20, -⟩ := tx1.tk
  obtain ⟨x, rfl⟩ : ∃ x, τ = 1001 + x := ⟨τ - 1001, by omega⟩
  have tok1 : cst T W m j 21 2 = nI (1001 + x) := tx1.tok.trans hT1
  have hP := (rk_e (t := 1001 + x) (by omega)).2.2
  have v3 := (vl_1 x (by omega)).2.2
  obtain ⟨u1, u2, u3, u4, u5, u6⟩ := vl_2 x (by omega)
  have f11 : M1 109 21 = nI 0 := by rw [p3 109 21 (by omega)]; exact h.f1
  have fT1 : frL hd m (cst T W m j) := (frT_cst : frT m (cst T W m j)).ln
  have fu1 : frU M M1 := fun q k a => p3 q k (by omega)
  have fU1 : frN M M1 := fu1.nn
  have eL : ∀ R, (jbd (f_M_reads M1) fun _ m24 => if (m24 109 21) = nI 0 then jbd (f_M_isSign (nI 59) m24) fun x25 m26 => if x25 = nI 0 then jbd (f_M_wrong (nI 1) m26) fun _ m31 => some ((), m31) else jbd (f_M_next m26) fun _ m28 => jpu m28 109 15 ((m28 109 15) + nI 1) fun m29 => some ((), m29) else some ((), m24)) = R → f_M_line M = R := fun R hR => by
    unfold f_M_line
    simp only [lits]
    rw [h19, if_pos rfl, h20, if_pos (nI_le (by omega) (by omega)), if_pos rfl, p2, jbd_s, if_pos rfl]
    exact hR
  by_cases qr : 10 ≤ x ∧ x ≤ 14
  · have hj1 := tok_rg tx1 hT1 ts (by omega) (by omega)
    obtain ⟨M2, r1, r2, r3, tx2⟩ := tx1.step ts hj1
    have hvl : vlT (1001 + x) = x - 6 := by rw [vl_3 x (by omega) (by omega), if_pos qr.2]
    have hso : soT (1001 + x) = 0 := u1.mpr (by omega)
    obtain ⟨m2, hm2⟩ : ∃ y, y = cst T W (cst T W m j) (j + 1) := ⟨_, rfl⟩
    rw [← hm2] at r1 tx2
    have c2 : ∀ q k, ¬ (q = 21 ∧ 1 ≤ k ∧ k ≤ 3) → m2 q k = m q k := fun q k a => by rw [hm2, cst_ne a, cst_ne a]
    have d2 : ∀ q k, ¬ (q = 109 ∧ 17 ≤ k ∧ k ≤ 20) → M2 q k = M q k := fun q k a => by rw [r3 q k a, p3 q k a]
    have hr2 : M2 109 14 = m hd 1 := by rw [d2 109 14 (by omega)]; exact h.ru.symm
    obtain ⟨v', m4, M4, w1, w2, w3, w4⟩ := sim_wrs (taken := m hd 1) (k91 := fun w12 m11 => some (w12, m11)) (k88 := fun w17 m16 => some (w17, m16)) (k70 := fun m15 => some (nI 0, m15)) ts (K - (j + 2)) 5000 5000 0 (nI 0) m2 M2 (j + 1 + 1) (by omega) (by omega) (by omega) (Nat.zero_le _) six_0 tx2 (by rw [c2 21 4 (by omega)]; exact h.f0) (by rw [d2 109 21 (by omega)]; exact h.f1)
    have eW : f_R_takeWriters (m hd 1) m2 = some (v', m4) := by unfold f_R_takeWriters; exact w1
    have c4 : ∀ q k, ¬ (q = 21 ∧ 1 ≤ k ∧ k ≤ 5) → m4 q k = m q k := fun q k a => by rw [w2 q k a, c2 q k (by omega)]
    have d4 : ∀ q k, ¬ (q = 109 ∧ 17 ≤ k ∧ k ≤ 22) → M4 q k = M q k := fun q k a => by rw [w3 q k a, d2 q k (by omega)]
    have fc4 : frT m m4 := c4
    have fT4 : frL hd m m4 := fc4.ln
    have fd4 : frU M M4 := d4
    have fU4 : frN M M4 := fd4.nn
    have m2d : m2 21 6 = nI hd := by rw [c2 21 6 (by omega)]; exact h.dr
    have m2r : m2 hd 1 = m hd 1 := c2 hd 1 (by omega)
    have m4d : m4 21 6 = nI hd := by rw [c4 21 6 (by omega)]; exact h.dr
    have m4r : m4 hd 1 = m hd 1 := c4 hd 1 (by omega)
    have v3' := v3.mpr qr
    rcases w4 with ⟨j', w5, w6, tx4, g0, g1, s6, n3, -⟩ | ⟨w5, ff⟩
    · have eWM : f_M_writers (m hd 1) M2 = some (v', M4) := by unfold f_M_writers; exact w5
      obtain ⟨τ', t1', t2', hT4, q19, -, q20, -⟩ := tx4.tk
      obtain ⟨x', rfl⟩ : ∃ x, τ' = 1001 + x := ⟨τ' - 1001, by omega⟩
      have tok4 : m4 21 2 = nI (1001 + x') := tx4.tok.trans hT4
      have eS := e_semi (M := M4) (x := x') (by omega) q19 q20
      by_cases q3 : x' = 3
      · subst q3
        rw [decide_eq_true rfl] at eS
        by_cases qz : v' = nI 0 ∧ ¬ m hd 1 = nI 0
        · -- told before
          obtain ⟨qz, qr0⟩ := qz
          refine ⟨flC 3 (Pl j') m4, wrM 3 (Pl j') M4, ?_, ?_, fT4.tr (frT_fl : frT m4 _).ln, fU4.tr (frU_wr : frU M4 _).nn, Or.inr (FF.fl (by omega) (by omega))⟩
          · unfold f_R_takeRule
            simp only [lits]
            rw [h.tx.at, nI_add, p1, jbd_s, tok1, nI_clamp (by omega), jgd_tk (by omega), jlt_e, hP.1, v3', if_pos rfl, tx1.at, nI_add, r1, jbd_s, m2d, nI_clamp (by omega), jgd_hok hh, m2r, eW, jbd_s, g0, if_pos rfl, tok4, nI_clamp (by omega), jgd_ok (by omega) (by omega), if_pos rfl, if_pos qz, m4d, nI_clamp (by omega), jgd_hok hh, m4r, if_neg qr0, e_fail ts tx4, jbd_s]
          · refine eL _ ?_
            have eR : f_M_reads M1 = some ((), wrM 3 (Pl j') M4) := by
              unfold f_M_reads
              simp only [lits]
              rw [k19, hso, if_pos rfl, k20 (by omega), hvl, if_neg (nI_nlt (by omega) (by omega)), if_pos (nI_le (by omega) (by omega)), r2, jbd_s, hr2, eWM, jbd_s, g1, if_pos rfl, if_pos qz, eS, jbd_s, if_neg (by decide), d4 109 14 (by omega), ← h.ru, if_neg qr0, e_wrong tx4 g1, jbd_s, wr21, if_neg (by decide)]
            rw [eR, jbd_s, wr21, if_neg (by decide)]
        · -- the rule is told
          obtain ⟨S, hS⟩ : ∃ S, S = if v' = nI 0 then nI 63 else v' := ⟨_, rfl⟩
          obtain ⟨m5, b1, b2, b3, b4, b5⟩ := e_addRule (m := m4) (L := L) hh (t := 1001 + x) (by omega) S (by rw [c4 hd 2 (by omega)]; exact h.l1)
          obtain ⟨M5, e1, e2, e3⟩ := lp_mrd (r := nI (x - 10)) (v := S) (k145 := fun m => some ((), m)) 6 5000 0 (jup M4 109 14 (m hd 1 ||| S)) (by omega) (by omega)
          have tx5 : TX B n K T Pl W m5 M5 j' := tx4.cong (fun q k a => b2 q k (by omega) (by omega)) (fun q k a => by rw [e2 q k (by omega), jup_no (by omega)])
          have hj' := tok_rg tx4 hT4 ts (by omega) (by omega)
          obtain ⟨M6, y1, y2, y3, tx6⟩ := tx5.step ts hj'
          have f15 : M5 109 21 = nI 0 := by rw [e2 109 21 (by omega), jup_no (by omega)]; exact g1
          have c6 : ∀ q k, ¬ (q = 21 ∧ 1 ≤ k ∧ k ≤ 5) → ¬ q = hd + 1 → ¬ (q = hd ∧ (k = 1 ∨ k = 2)) → cst T W m5 j' q k = m q k := fun q k a b d => by rw [cst_ne (by omega), b2 q k b d, c4 q k a]
          have d6 : ∀ q k, ¬ (q = 109 ∧ ((17 ≤ k ∧ k ≤ 22) ∨ k = 14 ∨ k = 15)) → ¬ (q = 116 ∧ 6 ≤ k) → jup M6 109 15 (nI (L + 1)) q k = M q k := fun q k a b => by rw [jup_no (by omega), y3 q k (by omega), e2 q k (by omega), jup_no (by omega), d4 q k (by omega)]
          have h15 : M6 109 15 = nI L := by rw [y3 109 15 (by omega), e2 109 15 (by omega), jup_no (by omega), d4 109 15 (by omega)]; exact h.l2
          have hlx : LX B n K T Pl W hd (cst T W m5 j') (jup M6 109 15 (nI (L + 1))) (j' + 1) c H (L + 1) := by
            refine h.rul hh c6 (fun q k a b => d6 q k a (by omega)) (tx6.cong (fun _ _ _ => rfl) (fun q k a => jup_no (by omega))) ?_ ?_ ?_ jup_at ?_ (fun w hw => ?_)
            · rw [cst_ne (by omega), b2 21 4 (by omega) (by omega)]; exact g0
            · rw [jup_no (by omega), y3 109 21 (by omega)]; exact f15
            · rw [cst_ne (by omega)]; exact b4
            · rw [cst_ne (by omega), b3, m4r, jup_no (by omega), y3 109 14 (by omega), e2 109 14 (by omega), jup_at]
            · rw [cst_ne (by omega), cst_ne (by omega), b3, m4r, jup_no (by omega), y3 116 _ (by omega), e3 w (by omega) hw, b5 w hw]
              by_cases z : bt S w = true
              · refine ⟨x - 10, by omega, by rw [if_pos z], ?_⟩
                rw [b_or, z, Bool.or_true, if_pos rfl, if_pos rfl, show 1011 + (x - 10) = 1001 + x by omega]
              · obtain ⟨r, z1, z2, z3⟩ := h.rl w hw
                refine ⟨r, z1, ?_, ?_⟩
                · rw [if_neg z, jup_no (by omega), d4 116 _ (by omega)]; exact z2
                · rw [b_or, bf_of z, Bool.or_false, if_neg Bool.false_ne_true, c4 (hd + 1) w (by omega)]; exact z3
          refine ⟨_, _, ?_, ?_, ?_, ?_, Or.inl ⟨j' + 1, by omega, hlx⟩⟩
          · unfold f_R_takeRule
            simp only [lits]
            rw [h.tx.at, nI_add, p1, jbd_s, tok1, nI_clamp (by omega), jgd_tk (by omega), jlt_e, hP.1, v3', if_pos rfl, tx1.at, nI_add, r1, jbd_s, m2d, nI_clamp (by omega), jgd_hok hh, m2r, eW, jbd_s, g0, if_pos rfl, tok4, nI_clamp (by omega), jgd_ok (by omega) (by omega), if_pos rfl, m4d, nI_clamp (by omega), jgd_hok hh, m4r]
            by_cases z : v' = nI 0
            · rw [if_pos z] at hS
              subst hS
              rw [if_pos z, if_pos (Classical.byContradiction fun y => qz ⟨z, y⟩), if_pos z, jgd_hok hh, b1, jbd_s, tx5.at, nI_add, y1, jbd_s]
            · rw [if_neg z] at hS
              subst hS
              rw [if_neg z, if_neg z, jgd_hok hh, b1, jbd_s, tx5.at, nI_add, y1, jbd_s]
          · refine eL _ ?_
            have eR : f_M_reads M1 = some ((), M5) := by
              unfold f_M_reads
              simp only [lits]
              rw [k19, hso, if_pos rfl, k20 (by omega), hvl, if_neg (nI_nlt (by omega) (by omega)), if_pos (nI_le (by omega) (by omega)), r2, jbd_s, hr2, eWM, jbd_s, g1, if_pos rfl, pk_sub (by omega), show x - 6 - 4 = x - 10 by omega, d4 109 14 (by omega), ← h.ru]
              by_cases z : v' = nI 0
              · rw [if_pos z] at hS
                subst hS
                rw [if_pos z, eS, jbd_s, if_neg (by decide), d4 109 14 (by omega), ← h.ru, if_pos (Classical.byContradiction fun y => qz ⟨z, y⟩), g1, if_pos rfl, jpu_e]
                exact e1
              · rw [if_neg z] at hS
                subst hS
                rw [if_neg z, if_pos rfl, jpu_e]
                exact e1
            have eS5 := e_semi (M := M5) (x := 3) (by omega) (by rw [e2 109 19 (by omega), jup_no (by omega)]; exact q19) (fun z => by rw [e2 109 20 (by omega), jup_no (by omega)]; exact q20 z)
            rw [decide_eq_true rfl] at eS5
            rw [eR, jbd_s, f15, if_pos rfl, eS5, jbd_s, if_neg (by decide), y2, jbd_s, h15, nI_add, jpu_e]
          · exact fun q k a b d => c6 q k (by omega) (by omega) (by omega)
          · exact fun q k a b d e f => d6 q k (by omega) e
      · -- no ; behind it
        rw [decide_eq_false q3] at eS
        have eC : f_R_takeRule m = some ((), flC 1 (Pl j') m4) := by
          unfold f_R_takeRule
          simp only [lits]
          rw [h.tx.at, nI_add, p1, jbd_s, tok1, nI_clamp (by omega), jgd_tk (by omega), jlt_e, hP.1, v3', if_pos rfl, tx1.at, nI_add, r1, jbd_s, m2d, nI_clamp (by omega), jgd_hok hh, m2r, eW, jbd_s, g0, if_pos rfl, tok4, nI_clamp (by omega), jgd_ok (by omega) (by omega), if_neg (by omega), e_fail ts tx4, jbd_s]
        by_cases z : v' = nI 0
        · refine ⟨flC 1 (Pl j') m4, wrM 1 (Pl j') M4, eC, ?_, fT4.tr (frT_fl : frT m4 _).ln, fU4.tr (frU_wr : frU M4 _).nn, Or.inr (FF.fl (by omega) (by omega))⟩
          refine eL _ ?_
          have eR : f_M_reads M1 = some ((), wrM 1 (Pl j') M4) := by
            unfold f_M_reads
            simp only [lits]
            rw [k19, hso, if_pos rfl, k20 (by omega), hvl, if_neg (nI_nlt (by omega) (by omega)), if_pos (nI_le (by omega) (by omega)), r2, jbd_s, hr2, eWM, jbd_s, g1, if_pos rfl, if_pos z, eS, jbd_s, if_pos tI_f, e_wrong tx4 g1, jbd_s, wr21, if_neg (by decide)]
          rw [eR, jbd_s, wr21, if_neg (by decide)]
        · obtain ⟨M5, e1, e2, e3⟩ := lp_mrd (r := nI (x - 10)) (v := v') (k145 := fun m => some ((), m)) 6 5000 0 (jup M4 109 14 (m hd 1 ||| v')) (by omega) (by omega)
          have d5 : ∀ q k, ¬ (q = 109 ∧ k = 14) → ¬ (q = 116 ∧ 6 ≤ k) → M5 q k = M4 q k := fun q k a b => by rw [e2 q k (by omega), jup_no a]
          have tx5 : TX B n K T Pl W m4 M5 j' := tx4.cong (fun _ _ _ => rfl) (fun q k a => d5 q k (by omega) (by omega))
          have f15 : M5 109 21 = nI 0 := by rw [d5 109 21 (by omega) (by omega)]; exact g1
          refine ⟨flC 1 (Pl j') m4, wrM 1 (Pl j') M5, eC, ?_, fT4.tr (frT_fl : frT m4 _).ln, (frN.tr fU4 (fun q k a _ _ b _ => d5 q k (by omega) b)).tr (frU_wr : frU M5 _).nn, Or.inr (FF.fl (by omega) (by omega))⟩
          refine eL _ ?_
          have eR : f_M_reads M1 = some ((), M5) := by
            unfold f_M_reads
            simp only [lits]
            rw [k19, hso, if_pos rfl, k20 (by omega), hvl, if_neg (nI_nlt (by omega) (by omega)), if_pos (nI_le (by omega) (by omega)), r2, jbd_s, hr2, eWM, jbd_s, g1, if_pos rfl, pk_sub (by omega), show x - 6 - 4 = x - 10 by omega, d4 109 14 (by omega), ← h.ru, if_neg z, if_pos rfl, jpu_e]
            exact e1
          have eS5 := e_semi (M := M5) (x := x') (by omega) (by rw [d5 109 19 (by omega) (by omega)]; exact q19) (fun y => by rw [d5 109 20 (by omega) (by omega)]; exact q20 y)
          rw [decide_eq_false q3] at eS5
          rw [eR, jbd_s, f15, if_pos rfl, eS5, jbd_s, if_pos tI_f, e_wrong tx5 f15, jbd_s]
    · -- the writers
      have eWM : f_M_writers (m hd 1) M2 = some (nI 0, M4) := by unfold f_M_writers; exact w5
      obtain ⟨⟨k, k1, k2, k3, k4⟩, -⟩ := id ff
      have k0 : ¬ nI k = nI 0 := fun z => by have := nI_ij (by omega) (by omega) z; omega
      refine ⟨m4, M4, ?_, ?_, fT4, fU4, Or.inr ff⟩
      · unfold f_R_takeRule
        simp only [lits]
        rw [h.tx.at, nI_add, p1, jbd_s, tok1, nI_clamp (by omega), jgd_tk (by omega), jlt_e, hP.1, v3', if_pos rfl, tx1.at, nI_add, r1, jbd_s, m2d, nI_clamp (by omega), jgd_hok hh, m2r, eW, jbd_s, k3, if_neg k0]
      · refine eL _ ?_
        have eR : f_M_reads M1 = some ((), M4) := by
          unfold f_M_reads
          simp only [lits]
          rw [k19, hso, if_pos rfl, k20 (by omega), hvl, if_neg (nI_nlt (by omega) (by omega)), if_pos (nI_le (by omega) (by omega)), r2, jbd_s, hr2, eWM, jbd_s, k4, if_neg k0]
        rw [eR, jbd_s, k4, if_neg k0]
  · -- no rule there
    refine ⟨flC 1 (Pl (j + 1)) (cst T W m j), wrM 1 (Pl (j + 1)) M1, ?_, ?_, fT1.tr (frT_fl : frT (cst T W m j) _).ln, fU1.tr (frU_wr : frU M1 _).nn, Or.inr (FF.fl (by omega) (by omega))⟩
    · unfold f_R_takeRule
      simp only [lits]
      rw [h.tx.at, nI_add, p1, jbd_s, tok1, nI_clamp (by omega), jgd_tk (by omega), jlt_e, hP.1, if_neg (fun z => qr (v3.mp (nI_ij (by omega) (by omega) z))), e_fail ts tx1, jbd_s]
    · refine eL _ ?_
      have eR : f_M_reads M1 = some ((), wrM 1 (Pl (j + 1)) M1) := by
        unfold f_M_reads
        simp only [lits]
        by_cases z : soT (1001 + x) = 0
        · have hr := u1.mp z
          have v7 := (vl_7 x (by omega) (by omega)).2.2.2.2.1
          rw [k19, z, if_pos rfl, k20 (by omega)]
          by_cases z2 : nI (vlT (1001 + x)) < nI 4
          · rw [if_pos z2, e_wrong tx1 f11, jbd_s]
          · rw [if_neg z2, if_neg (fun z3 => ?_), e_wrong tx1 f11, jbd_s]
            refine qr (v7.mp ⟨?_, ?_⟩)
            · exact Nat.le_of_not_lt fun y => z2 (nI_lt y (by omega))
            · exact Nat.le_of_not_lt fun y => nI_ge y (by omega) z3
        · rw [k19, if_neg (fun y => z (nI_ij (by omega) (by omega) y)), e_wrong tx1 f11, jbd_s]
      rw [eR, jbd_s, wr21, if_neg (by decide)]
end RV
