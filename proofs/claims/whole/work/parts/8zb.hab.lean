/-! a line of answer or round, on both sides -/
def hbR (z : Int32) (m : jMem) : Option (Unit × jMem) :=
    jgd (jhok (m 21 6).toNatClampNeg) (
      if (m (m 21 6).toNatClampNeg 7) < (8 : Int32) then
        jgd (jhok (m 21 6).toNatClampNeg) (
          jbd (f_R_stepTo ((m 21 1) + (1 : Int32)) m) fun u3 m4 =>
          jbd (f_R_takeExpression m4) fun u5 m6 =>
          if (m6 21 4) = 0 then
            jbd (f_R_takeBy m6) fun x19 m20 =>
            if (m20 21 4) = 0 then
              jgd (jok (m20 21 2).toNatClampNeg ∧ jok 1004) (if (m20 21 2).toNatClampNeg = 1004 then
                if x19 = 0 then
                  jgd (jhok (m20 21 6).toNatClampNeg) (
                    jbd (f_H_addHabit (m20 21 6).toNatClampNeg z (63 : Int32) (m (m 21 6).toNatClampNeg 10) m20) fun u26 m27 =>
                    jbd (f_R_stepTo ((m27 21 1) + (1 : Int32)) m27) fun u29 m30 =>
                    some ((), m30))
                else
                  jgd (jhok (m20 21 6).toNatClampNeg) (
                    jbd (f_H_addHabit (m20 21 6).toNatClampNeg z x19 (m (m 21 6).toNatClampNeg 10) m20) fun u21 m22 =>
                    jbd (f_R_stepTo ((m22 21 1) + (1 : Int32)) m22) fun u24 m25 =>
                    some ((), m25))
              else
                jbd (f_R_fail (1 : Int32) m20) fun u31 m32 =>
                some ((), m32))
            else
              some ((), m20)
          else
            if (m6 21 4) = 0 then
              jgd (jok (m6 21 2).toNatClampNeg ∧ jok 1004) (if (m6 21 2).toNatClampNeg = 1004 then
                if (0 : Int32) = 0 then
                  jgd (jhok (m6 21 6).toNatClampNeg) (
                    jbd (f_H_addHabit (m6 21 6).toNatClampNeg z (63 : Int32) (m (m 21 6).toNatClampNeg 10) m6) fun u12 m13 =>
                    jbd (f_R_stepTo ((m13 21 1) + (1 : Int32)) m13) fun u15 m16 =>
                    some ((), m16))
                else
                  jgd (jhok (m6 21 6).toNatClampNeg) (
                    jbd (f_H_addHabit (m6 21 6).toNatClampNeg z (0 : Int32) (m (m 21 6).toNatClampNeg 10) m6) fun u7 m8 =>
                    jbd (f_R_stepTo ((m8 21 1) + (1 : Int32)) m8) fun u10 m11 =>
                    some ((), m11))
              else
                jbd (f_R_fail (1 : Int32) m6) fun u17 m18 =>
                some ((), m18))
            else
              some ((), m6))
      else
        jbd (f_R_fail (2 : Int32) m) fun u33 m34 =>
        some ((), m34))
def hbT (h : Int32) (m4 : jMem) : Option (Unit × jMem) :=
    jst 1 m4 114 h (0 : Int32) fun m5 =>
    if (m5 109 19) = 0 then
      if (m5 109 20) = (3 : Int32) then
        jbd (f_M_next m5) fun u10 m11 =>
        jbd (f_M_writers (0 : Int32) m11) fun x12 m13 =>
        jst 1 m13 114 h x12 fun m14 =>
        if (m14 109 21) = 0 then
          jld 1 m14 114 h fun x17 =>
          if x17 = 0 then
            jbd (f_M_wrong (1 : Int32) m14) fun u20 m21 =>
            if (m21 109 21) = 0 then
              jpu m21 109 12 ((m21 109 12) + (1 : Int32)) fun m22 =>
              jst 1 m22 115 ((9 : Int32) + (m22 109 12)) (m22 109 5) fun m23 =>
              some ((), m23)
            else
              some ((), m21)
          else
            if (m14 109 21) = 0 then
              jpu m14 109 12 ((m14 109 12) + (1 : Int32)) fun m18 =>
              jst 1 m18 115 ((9 : Int32) + (m18 109 12)) (m18 109 5) fun m19 =>
              some ((), m19)
            else
              some ((), m14)
        else
          if (m14 109 21) = 0 then
            jpu m14 109 12 ((m14 109 12) + (1 : Int32)) fun m15 =>
            jst 1 m15 115 ((9 : Int32) + (m15 109 12)) (m15 109 5) fun m16 =>
            some ((), m16)
          else
            some ((), m14)
      else
        if (m5 109 21) = 0 then
          jpu m5 109 12 ((m5 109 12) + (1 : Int32)) fun m8 =>
          jst 1 m8 115 ((9 : Int32) + (m8 109 12)) (m8 109 5) fun m9 =>
          some ((), m9)
        else
          some ((), m5)
    else
      if (m5 109 21) = 0 then
        jpu m5 109 12 ((m5 109 12) + (1 : Int32)) fun m6 =>
        jst 1 m6 115 ((9 : Int32) + (m6 109 12)) (m6 109 5) fun m7 =>
        some ((), m7)
      else
        some ((), m5)
theorem e_hbR (m : jMem) : f_R_takeHabit m = jgd (jok (m 21 2).toNatClampNeg ∧ jok 1009) (if (m 21 2).toNatClampNeg = 1009 then hbR 1 m else hbR 0 m) := rfl
theorem e_hbT (v : Int32) (M : jMem) : f_M_habit v M = jst 2 M 113 ((9 : Int32) + (M 109 12)) (jbz v) fun m1 => jst 1 m1 115 ((9 : Int32) + (M 109 12)) (m1 109 5) fun m2 => jbd (f_M_expression m2) fun _ m4 => if (m4 109 21) = 0 then hbT ((9 : Int32) + (M 109 12)) m4 else some ((), m4) := rfl
def finM (H : Nat) (M : jMem) : jMem := jup (jup M 109 12 (nI (H + 1))) 115 (9 + (H + 1)) (M 109 5)
def hbA (hd H L : Nat) (z who b e : Int32) (m : jMem) : jMem := jup (jup (jup (jup (jup (jup m (hd + 2) H z) (hd + 3) H who) (hd + 4) H b) (hd + 5) H e) hd 7 (nI (H + 1))) hd 2 (nI (L + 1))
section HB
variable {B : Nat → Nat} {n K : Nat} {T Pl W : Nat → Int32} {hd c H L : Nat} {m M : jMem} {j : Nat}
theorem e_fin (h : M 109 12 = nI H) (hH : H < 8) : (jpu M 109 12 ((M 109 12) + nI 1) fun m8 => jst 1 m8 115 (nI 9 + (m8 109 12)) (m8 109 5) fun m9 => some ((), m9)) = some ((), finM H M) := by
  unfold finM
  rw [jpu_e, h, nI_add, jup_at, nI_add, st_115 (by omega), jup_no (by omega)]
theorem finM_ne {q k : Nat} (h : ¬ (q = 109 ∧ k = 12)) (h2 : ¬ (q = 115 ∧ k = 9 + H + 1)) : finM H M q k = M q k := by
  unfold finM
  rw [jup_no (by omega), jup_no h]
theorem e_addHabit (hh : hd = 3 ∨ hd = 12) {z who b : Int32} (hz : jbz z = z) (h : m hd 7 = nI H) (hH : H < 8) (h2 : m hd 2 = nI L) : f_H_addHabit hd z who b m = some ((), hbA hd H L z who b (m hd 10) m) := by
  obtain ⟨l6, l7, l8, l4, l5, l3, l2⟩ := jhlen hh
  unfold f_H_addHabit hbA
  simp only [lits]
  rw [h, if_pos (nI_lt hH (by omega)), jst_nI l2 (by omega) hH, hz, jup_no (by omega), h, jst_nI l3 (by omega) hH, jup_no (by omega), jup_no (by omega), h, jst_nI l4 (by omega) hH, jup_no (by omega), jup_no (by omega), jup_no (by omega), h, jst_nI l5 (by omega) hH, jup_no (by omega), jup_no (by omega), jup_no (by omega), jpu_e, jup_no (by omega), jup_no (by omega), jup_no (by omega), jup_no (by omega), h, nI_add, jpu_e, jup_no (by omega), jup_no (by omega), jup_no (by omega), jup_no (by omega), jup_no (by omega), h2, nI_add]
theorem hbA_ne {z who b e : Int32} {q k : Nat} (h : ¬ ((hd + 2 ≤ q ∧ q ≤ hd + 5) ∧ k = H)) (h2 : ¬ (q = hd ∧ (k = 2 ∨ k = 7))) : hbA hd H L z who b e m q k = m q k := by
  unfold hbA
  rw [jup_no (by omega), jup_no (by omega), jup_no (by omega), jup_no (by omega), jup_no (by omega), jup_no (by omega)]
theorem sim_by (ts : TS B n K T Pl W) (tx : TX B n K T Pl W m M j) (f0 : m 21 4 = nI 0) (f1 : M 109 21 = nI 0) (h2 : M 109 12 = nI H) (hH : H < 8) : ∃ v m' M', f_R_takeBy m = some (v, m') ∧ hbT (nI (9 + H)) M = some ((), M') ∧ frT m m' ∧ (∀ q k, ¬ (q = 109 ∧ ((17 ≤ k ∧ k ≤ 22) ∨ k = 12)) → ¬ (q = 114 ∧ k = 9 + H) → ¬ (q = 115 ∧ k = 9 + H + 1) → M' q k = M q k) ∧ ((∃ j', j ≤ j' ∧ TX B n K T Pl W m' M' j' ∧ m' 21 4 = nI 0 ∧ M' 109 21 = nI 0 ∧ M' 109 12 = nI (H + 1) ∧ M' 115 (9 + (H + 1)) = M 109 5 ∧ M' 114 (9 + H) = v ∧ six v) ∨ FF m' M') := by
  have n4 := ts.n4
  have Kn := ts.Kn
  have txa : TX B n K T Pl W m (jup M 114 (9 + H) (nI 0)) j := tx.cong (fun _ _ _ => rfl) (fun q k a => jup_no (by omega))
  obtain ⟨τ, t1, t2, hT, h19, -, h20, -⟩ := tx.tk
  obtain ⟨x, rfl⟩ : ∃ x, τ = 1001 + x := ⟨τ - 1001, by omega⟩
  have tok : m 21 2 = nI (1001 + x) := tx.tok.trans hT
  obtain ⟨u1, u2, u3, u4, u5, u6⟩ := vl_2 x (by omega)
  by_cases q9 : x = 9
  · subst q9
    have hj := tok_rg tx hT ts (by omega) (by omega)
    obtain ⟨M1, p1, p2, p3, tx1⟩ := txa.step ts hj
    have f11 : M1 109 21 = nI 0 := by rw [p3 109 21 (by omega), jup_no (by omega)]; exact f1
    have h12 : M1 109 12 = nI H := by rw [p3 109 12 (by omega), jup_no (by omega)]; exact h2
    have fc1 : cst T W m j 21 4 = nI 0 := by rw [cst_ne (by omega)]; exact f0
    obtain ⟨τ1, t1', t2', hT1, k19, -, k20, -⟩ := tx1.tk
    obtain ⟨x1, rfl⟩ : ∃ x, τ1 = 1001 + x := ⟨τ1 - 1001, by omega⟩
    have tok1 : cst T W m j 21 2 = nI (1001 + x1) := tx1.tok.trans hT1
    have e19 : soT (1001 + 9) = 0 := by decide
    have e20 : vlT (1001 + 9) = 3 := by decide
    -- the reference up to its writers
    have eM : ∀ R, (jbd (f_M_writers (nI 0) M1) fun x12 m13 => jst 1 m13 114 (nI (9 + H)) x12 fun m14 => if (m14 109 21) = nI 0 then jld 1 m14 114 (nI (9 + H)) fun x17 => if x17 = nI 0 then jbd (f_M_wrong (nI 1) m14) fun _ m21 => if (m21 109 21) = nI 0 then jpu m21 109 12 ((m21 109 12) + nI 1) fun m22 => jst 1 m22 115 (nI 9 + (m22 109 12)) (m22 109 5) fun m23 => some ((), m23) else some ((), m21) else if (m14 109 21) = nI 0 then jpu m14 109 12 ((m14 109 12) + nI 1) fun m18 => jst 1 m18 115 (nI 9 + (m18 109 12)) (m18 109 5) fun m19 => some ((), m19) else some ((), m14) else if (m14 109 21) = nI 0 then jpu m14 109 12 ((m14 109 12) + nI 1) fun m15 => jst 1 m15 115 (nI 9 + (m15 109 12)) (m15 109 5) fun m16 => some ((), m16) else some ((), m14)) = R → hbT (nI (9 + H)) M = R := fun R hR => by
      unfold hbT
      simp only [lits]
      rw [st_114 (by omega), jup_no (by omega), h19, e19, if_pos rfl, jup_no (by omega), h20 (by omega), e20, if_pos rfl, p2, jbd_s]
      exact hR
    by_cases q2 : x1 = 2
    · subst q2
      obtain ⟨v', m4, M4, w1, w2, w3, w4⟩ := sim_wrs (taken := nI 0) (k91 := fun w12 m11 => some (w12, m11)) (k88 := fun w17 m16 => some (w17, m16)) (k70 := fun m15 => some (nI 0, m15)) ts (K - (j + 1)) 5000 5000 0 (nI 0) (cst T W m j) M1 (j + 1) (by have := tx1.jK; omega) (by omega) (by omega) (Nat.zero_le _) six_0 tx1 fc1 f11
      have eW : f_R_takeWriters (nI 0) (cst T W m j) = some (v', m4) := by unfold f_R_takeWriters; exact w1
      have eC : f_R_takeBy m = some (v', m4) := by
        unfold f_R_takeBy
        simp only [lits]
        rw [tok, nI_clamp (by omega), jgd_ok (by omega) (by omega), if_pos rfl, tx.at, nI_add, p1, jbd_s, tok1, nI_clamp (by omega), jgd_ok (by omega) (by omega), if_pos rfl, eW, jbd_s]
      have c4 : frT m m4 := frT_cst.tr w2
      have d4 : ∀ q k, ¬ (q = 109 ∧ 17 ≤ k ∧ k ≤ 22) → ¬ (q = 114 ∧ k = 9 + H) → M4 q k = M q k := fun q k a b => by rw [w3 q k a, p3 q k (by omega), jup_no b]
      rcases w4 with ⟨j', w5, w6, tx4, g0, g1, s6, n3, nz⟩ | ⟨w5, ff⟩
      · have eWM : f_M_writers (nI 0) M1 = some (v', M4) := by unfold f_M_writers; exact w5
        have hv : ¬ v' = nI 0 := nz (Or.inl hT1)
        have g12 : jup M4 114 (9 + H) v' 109 12 = nI H := by rw [jup_no (by omega), d4 109 12 (by omega) (by omega)]; exact h2
        refine ⟨v', m4, finM H (jup M4 114 (9 + H) v'), eC, eM _ ?_, c4, fun q k a b d => ?_, Or.inl ⟨j', by omega, tx4.cong (fun _ _ _ => rfl) (fun q k a => by rw [finM_ne (by omega) (by omega), jup_no (by omega)]), g0, ?_, ?_, ?_, ?_, s6⟩⟩
        · rw [eWM, jbd_s, st_114 (by omega), jup_no (by omega), g1, if_pos rfl, ld_114 (by omega), jup_at, if_neg hv, if_pos rfl]
          exact e_fin g12 hH
        · rw [finM_ne (by omega) (by omega), jup_no (by omega), d4 q k (by omega) b]
        · rw [finM_ne (by omega) (by omega), jup_no (by omega)]; exact g1
        · unfold finM
          rw [jup_no (by omega)]; exact jup_at
        · unfold finM
          rw [jup_at, jup_no (by omega), d4 109 5 (by omega) (by omega)]
        · rw [finM_ne (by omega) (by omega), jup_at]
      · have eWM : f_M_writers (nI 0) M1 = some (nI 0, M4) := by unfold f_M_writers; exact w5
        obtain ⟨⟨k, k1, k2, k3, k4⟩, kp⟩ := ff
        have k0 : ¬ nI k = nI 0 := fun z => by have := nI_ij (by omega) (by omega) z; omega
        refine ⟨v', m4, jup M4 114 (9 + H) (nI 0), eC, eM _ ?_, c4, fun q k a b d => ?_, Or.inr ⟨⟨k, k1, k2, k3, ?_⟩, ?_⟩⟩
        · rw [eWM, jbd_s, st_114 (by omega), jup_no (by omega), k4, if_neg k0, if_neg k0]
        · rw [jup_no b, d4 q k (by omega) b]
        · rw [jup_no (by omega)]; exact k4
        · rw [jup_no (by omega)]; exact kp
    · -- no number behind by
      have q3 : ¬ 1001 + x1 = 1003 := by omega
      have v2 := vl_2 x1 (by omega)
      have eWM : f_M_writers (nI 0) M1 = some (nI 0, M1) := by
        unfold f_M_writers
        rw [lp_M_writers_2]
        simp only [lits]
        rw [f11, if_pos rfl, k19, if_neg (fun z => q2 (v2.2.1.mp (nI_ij (by have := v2.2.2.2.2.1; omega) (by omega) z)))]
      have tx2 : TX B n K T Pl W (cst T W m j) (jup M1 114 (9 + H) (nI 0)) (j + 1) := tx1.cong (fun _ _ _ => rfl) (fun q k a => jup_no (by omega))
      have f12 : jup M1 114 (9 + H) (nI 0) 109 21 = nI 0 := by rw [jup_no (by omega)]; exact f11
      refine ⟨nI 0, flC 1 (Pl (j + 1)) (cst T W m j), wrM 1 (Pl (j + 1)) (jup M1 114 (9 + H) (nI 0)), ?_, eM _ ?_, frT_cst.tr frT_fl, fun q k a b d => ?_, Or.inr (FF.fl (by omega) (by omega))⟩
      · unfold f_R_takeBy
        simp only [lits]
        rw [tok, nI_clamp (by omega), jgd_ok (by omega) (by omega), if_pos rfl, tx.at, nI_add, p1, jbd_s, tok1, nI_clamp (by omega), jgd_ok (by omega) (by omega), if_neg q3, e_fail ts tx1, jbd_s]
      · rw [eWM, jbd_s, st_114 (by omega), f12, if_pos rfl, ld_114 (by omega), jup_at, if_pos rfl, e_wrong tx2 f12, jbd_s, wr21, if_neg (by decide)]
      · rw [frU_wr q k (by omega), jup_no b, p3 q k (by omega), jup_no b]
  · -- no by
    have f11 : jup M 114 (9 + H) (nI 0) 109 21 = nI 0 := by rw [jup_no (by omega)]; exact f1
    have h12 : jup M 114 (9 + H) (nI 0) 109 12 = nI H := by rw [jup_no (by omega)]; exact h2
    refine ⟨nI 0, m, finM H (jup M 114 (9 + H) (nI 0)), ?_, ?_, frT.rf, fun q k a b d => by rw [finM_ne (by omega) (by omega), jup_no b], Or.inl ⟨j, Nat.le_refl j, txa.cong (fun _ _ _ => rfl) (fun q k a => finM_ne (by omega) (by omega)), f0, ?_, ?_, ?_, ?_, six_0⟩⟩
    · unfold f_R_takeBy
      simp only [lits]
      rw [tok, nI_clamp (by omega), jgd_ok (by omega) (by omega), if_neg (by omega)]
    · unfold hbT
      simp only [lits]
      rw [st_114 (by omega)]
      by_cases z : soT (1001 + x) = 0
      · have hr := u1.mp z
        have v7 := (vl_7 x (by omega) (by omega)).2.2.1
        rw [if_pos (by rw [jup_no (by omega), h19, z]), if_neg (fun y => ?_), f11, if_pos rfl]
        · exact e_fin h12 hH
        · rw [jup_no (by omega), h20 (by omega)] at y
          exact q9 (v7.mp (nI_ij (by omega) (by omega) y))
      · rw [if_neg (fun y => ?_), f11, if_pos rfl]
        · exact e_fin h12 hH
        · rw [jup_no (by omega), h19] at y
          exact z (nI_ij (by omega) (by omega) y)
    · rw [finM_ne (by omega) (by omega)]; exact f11
    · unfold finM
      rw [jup_no (by omega)]; exact jup_at
    · unfold finM
      rw [jup_at, jup_no (by omega)]
    · rw [finM_ne (by omega) (by omega)]; exact jup_at
theorem sim_habit (hh : hd = 3 ∨ hd = 12) (ts : TS B n K T Pl W) (h : LX B n K T Pl W hd m M j c H L) (isR : Bool) (hT : T j = nI (if isR = true then 1009 else 1008)) : ∃ m' M', f_R_takeHabit m = some ((), m') ∧ f_M_line M = some ((), M') ∧ frL hd m m' ∧ frN M M' ∧ ((∃ j' c', j < j' ∧ LX B n K T Pl W hd m' M' j' c' (H + 1) (L + 1)) ∨ FF m' M') := by
  have n4 := ts.n4
  have Kn := ts.Kn
  have hH8 := h.h8
  have hj := tok_rg h.tx hT ts (by split <;> omega) (by split <;> omega)
  obtain ⟨τ0, a1, a2, a3, h19, -, hv0, -⟩ := h.tx.tk
  obtain rfl : τ0 = if isR = true then 1009 else 1008 := nI_ij (by omega) (by split <;> omega) (a3.symm.trans hT)
  have h19 : M 109 19 = nI 0 := by rw [h19]; cases isR <;> rfl
  have h20 : M 109 20 = nI (if isR = true then 2 else 1) := by rw [hv0 (by split <;> omega)]; cases isR <;> rfl
  have tok : m 21 2 = nI (if isR = true then 1009 else 1008) := h.tx.tok.trans hT
  have hbz : jbz (tI isR) = tI isR := jbz01 isR
  have eC : ∀ R, hbR (tI isR) m = R → f_R_takeHabit m = R := fun R hR => by
    rw [e_hbR, tok, nI_clamp (by split <;> omega), jgd_ok (by split <;> omega) (by omega)]
    cases isR
    · rw [if_neg (by decide)]; exact hR
    · rw [if_pos rfl]; exact hR
  by_cases q8 : H = 8
  · -- a ninth
    refine ⟨flC 2 (Pl j) m, wrM 2 (Pl j) M, eC _ ?_, ?_, (frT_fl : frT m _).ln, (frU_wr : frU M _).nn, Or.inr (FF.fl (by omega) (by omega))⟩
    · unfold hbR
      simp only [lits]
      rw [h.dr, nI_clamp (by omega), jgd_hok hh, h.h1, if_neg (nI_nlt (by omega) (by omega)), e_fail ts h.tx, jbd_s]
    · unfold f_M_line
      simp only [lits]
      rw [h19, if_pos rfl, h20, if_pos (by cases isR <;> decide), if_neg (by cases isR <;> decide), h.h2, if_pos (by rw [q8]), e_wrong h.tx h.f1, jbd_s]
  · have hH : H < 8 := by omega
    obtain ⟨M1, p1, p2, p3, tx1⟩ := h.tx.step ts hj
    have eL : ∀ R, (jbd (f_M_habit (tI isR) M1) fun _ m24 => if (m24 109 21) = nI 0 then jbd (f_M_isSign (nI 59) m24) fun x25 m26 => if x25 = nI 0 then jbd (f_M_wrong (nI 1) m26) fun _ m31 => some ((), m31) else jbd (f_M_next m26) fun _ m28 => jpu m28 109 15 ((m28 109 15) + nI 1) fun m29 => some ((), m29) else some ((), m24)) = R → f_M_line M = R := fun R hR => by
      unfold f_M_line
      simp only [lits]
      rw [h19, if_pos rfl, h20, if_pos (by cases isR <;> decide), if_neg (by cases isR <;> decide), h.h2, if_neg (fun z => q8 (nI_ij (by omega) (by omega) z)), p2, jbd_s, if_neg (by cases isR <;> decide)]
      cases isR
      · rw [if_neg (by decide)]; exact hR
      · rw [if_pos rfl]; exact hR
    obtain ⟨Ma, hMa⟩ : ∃ y, y = jup (jup M1 113 (9 + H) (tI isR)) 115 (9 + H) (nI c) := ⟨_, rfl⟩
    have dA : ∀ q k, ¬ (q = 109 ∧ 17 ≤ k ∧ k ≤ 20) → ¬ ((q = 113 ∨ q = 115) ∧ k = 9 + H) → Ma q k = M q k := fun q k a b => by rw [hMa, jup_no (by omega), jup_no (by omega), p3 q k a]
    have txa : TX B n K T Pl W (cst T W m j) Ma (j + 1) := tx1.cong (fun _ _ _ => rfl) (fun q k a => by rw [hMa, jup_no (by omega), jup_no (by omega)])
    have cA : ∀ q k, ¬ (q = 21 ∧ 1 ≤ k ∧ k ≤ 3) → cst T W m j q k = m q k := fun q k a => cst_ne a
    have h12 : M1 109 12 = nI H := by rw [p3 109 12 (by omega)]; exact h.h2
    have h5 : M1 109 5 = nI c := by rw [p3 109 5 (by omega)]; exact h.cd.c2
    have fLA : frL hd m (cst T W m j) := (frT_cst : frT m (cst T W m j)).ln
    have fNA : frN M Ma := fun q k a b d e f => dA q k (by omega) (by omega)
    obtain ⟨m4, M4, e1, e2, e3, e4, e5⟩ := sim_takeExpr (hd := hd) (c := c) hh ts txa (by rw [cA 21 4 (by omega)]; exact h.f0) (by rw [dA 109 21 (by omega) (by omega)]; exact h.f1) (by rw [cA 21 6 (by omega)]; exact h.dr) (by rw [cA hd 11 (by omega)]; exact h.k1) (by rw [dA 109 7 (by omega) (by omega)]; exact h.k2) h.c64 (h.cd.cong (cA hd 10 (by omega)) (fun k _ => ⟨cA _ _ (by omega), cA _ _ (by omega)⟩) (dA _ _ (by omega) (by omega)) (fun k _ => ⟨dA _ _ (by omega) (by omega), dA _ _ (by omega) (by omega)⟩))
    have c4 : ∀ q k, ¬ (q = 21 ∧ ¬ k = 6) → ¬ (q = 22 ∨ q = 23) → ¬ (q = hd ∧ (k = 10 ∨ k = 11)) → ¬ (q = hd + 6 ∨ q = hd + 7) → m4 q k = m q k := fun q k a b d e => by rw [e3 q k a b d (by omega), cA q k (by omega)]
    have d4 : ∀ q k, ¬ (q = 109 ∧ (k = 5 ∨ k = 7 ∨ (17 ≤ k ∧ k ≤ 22) ∨ k = 26 ∨ k = 27)) → ¬ ((q = 111 ∨ q = 112) ∧ 64 ≤ k) → ¬ q = 117 → M4 q k = Ma q k := fun q k a b d => e4 q k a (by omega) d
    have fL4 : frL hd m m4 := fLA.tr (e3.ln hh)
    have fN4 : frN M M4 := fNA.tr e4.nn
    have eH : ∀ R, (if (M4 109 21) = nI 0 then hbT (nI (9 + H)) M4 else some ((), M4)) = R → f_M_habit (tI isR) M1 = R := fun R hR => by
      rw [e_hbT]
      simp only [lits]
      rw [h12, nI_add, st_113 (by omega), hbz, jup_no (by omega), h5, st_115 (by omega), ← hMa, e2, jbd_s]
      exact hR
    rcases e5 with ⟨c', j2, g1, g2, gj, tx4, g3, g4, g5, g6, g7, g8, g9⟩ | ff
    · have hc2 : M4 109 5 = nI c' := g7.c2
      obtain ⟨v, m6, M7, b1, b2, b3, b4, b5⟩ := sim_by (H := H) ts tx4 g3 g4 (by rw [d4 109 12 (by omega) (by omega) (by omega), dA 109 12 (by omega) (by omega)]; exact h.h2) hH
      have c6 : ∀ q k, ¬ (q = 21 ∧ ¬ k = 6) → ¬ (q = 22 ∨ q = 23) → ¬ (q = hd ∧ (k = 10 ∨ k = 11)) → ¬ (q = hd + 6 ∨ q = hd + 7) → m6 q k = m q k := fun q k a b d e => by rw [b3 q k (by omega), c4 q k a b d e]
      have d7 : ∀ q k, ¬ (q = 109 ∧ (k = 5 ∨ k = 7 ∨ k = 12 ∨ (17 ≤ k ∧ k ≤ 22) ∨ k = 26 ∨ k = 27)) → ¬ ((q = 111 ∨ q = 112) ∧ 64 ≤ k) → ¬ q = 117 → ¬ ((q = 113 ∨ q = 114 ∨ q = 115) ∧ k = 9 + H) → ¬ (q = 115 ∧ k = 9 + H + 1) → M7 q k = M q k := fun q k a b d e f => by rw [b4 q k (by omega) (by omega) f, d4 q k (by omega) b d, dA q k (by omega) (by omega)]
      have fL6 : frL hd m m6 := fL4.tr b3.ln
      have fN7 : frN M M7 := fun q k a b d e f => d7 q k (by omega) b f (by omega) (by omega)
      have m6d : m6 21 6 = nI hd := by clear b5; rw [c6 21 6 (by omega) (by omega) (by omega) (by omega)]; exact h.dr
      have mhd10 : m hd 10 = nI c := h.cd.c1
      rcases b5 with ⟨j3, k1, tx6, k2, k3, k4, k5, k6, k7⟩ | ff
      · obtain ⟨τ', t1', t2', hT4, q19, -, q20, -⟩ := tx6.tk
        obtain ⟨x', rfl⟩ : ∃ x, τ' = 1001 + x := ⟨τ' - 1001, by omega⟩
        have tok6 : m6 21 2 = nI (1001 + x') := tx6.tok.trans hT4
        have eS := e_semi (M := M7) (x := x') (by omega) q19 q20
        by_cases q3 : x' = 3
        · subst q3
          rw [decide_eq_true rfl] at eS
          have hj3 := tok_rg tx6 hT4 ts (by omega) (by omega)
          obtain ⟨S, hS⟩ : ∃ S, S = if v = nI 0 then nI 63 else v := ⟨_, rfl⟩
          have m6e : m6 hd 10 = nI c' := by rw [b3 hd 10 (by omega)]; exact g7.c1
          have eA := e_addHabit (m := m6) (H := H) (L := L) (z := tI isR) (who := S) (b := nI c) hh hbz (by rw [c6 hd 7 (by omega) (by omega) (by omega) (by omega)]; exact h.h1) hH (by rw [c6 hd 2 (by omega) (by omega) (by omega) (by omega)]; exact h.l1)
          rw [m6e] at eA
          obtain ⟨m8, hm8⟩ : ∃ y, y = hbA hd H L (tI isR) S (nI c) (nI c') m6 := ⟨_, rfl⟩
          rw [← hm8] at eA
          have c8 : ∀ q k, ¬ ((hd + 2 ≤ q ∧ q ≤ hd + 5) ∧ k = H) → ¬ (q = hd ∧ (k = 2 ∨ k = 7)) → m8 q k = m6 q k := fun q k a b => by rw [hm8]; exact hbA_ne a b
          have tx8 : TX B n K T Pl W m8 M7 j3 := tx6.cong (fun q k a => c8 q k (by omega) (by omega)) (fun _ _ _ => rfl)
          obtain ⟨M9, y1, y2, y3, tx9⟩ := tx8.step ts hj3
          have h15 : M9 109 15 = nI L := by rw [y3 109 15 (by omega), d7 109 15 (by omega) (by omega) (by omega) (by omega) (by omega)]; exact h.l2
          obtain ⟨m', hm'⟩ : ∃ y, y = cst T W m8 j3 := ⟨_, rfl⟩
          obtain ⟨M', hM'⟩ : ∃ y, y = jup M9 109 15 (nI (L + 1)) := ⟨_, rfl⟩
          have cF : ∀ q k, ¬ (q = 21 ∧ 1 ≤ k ∧ k ≤ 3) → m' q k = m8 q k := fun q k a => by rw [hm']; exact cst_ne a
          have dF : ∀ q k, ¬ (q = 109 ∧ ((17 ≤ k ∧ k ≤ 20) ∨ k = 15)) → M' q k = M7 q k := fun q k a => by rw [hM', jup_no (by omega), y3 q k (by omega)]
          have r2 : m' (hd + 2) H = tI isR := by
            rw [cF _ _ (by omega), hm8]; unfold hbA
            rw [jup_no (by omega), jup_no (by omega), jup_no (by omega), jup_no (by omega), jup_no (by omega)]; exact jup_at
          have r3 : m' (hd + 3) H = S := by
            rw [cF _ _ (by omega), hm8]; unfold hbA
            rw [jup_no (by omega), jup_no (by omega), jup_no (by omega), jup_no (by omega)]; exact jup_at
          have r4 : m' (hd + 4) H = nI c := by
            rw [cF _ _ (by omega), hm8]; unfold hbA
            rw [jup_no (by omega), jup_no (by omega), jup_no (by omega)]; exact jup_at
          have r5 : m' (hd + 5) H = nI c' := by
            rw [cF _ _ (by omega), hm8]; unfold hbA
            rw [jup_no (by omega), jup_no (by omega)]; exact jup_at
          have r7 : m' hd 7 = nI (H + 1) := by
            rw [cF _ _ (by omega), hm8]; unfold hbA
            rw [jup_no (by omega)]; exact jup_at
          have rL : m' hd 2 = nI (L + 1) := by
            rw [cF _ _ (by omega), hm8]; exact jup_at
          have r6 : ∀ k, m' (hd + 6) k = m4 (hd + 6) k := fun k => by rw [cF _ _ (by omega), c8 _ _ (by omega) (by omega), b3 _ _ (by omega)]
          have s113 : M' 113 (9 + H) = tI isR := by
            rw [dF _ _ (by omega), b4 113 _ (by omega) (by omega) (by omega), d4 113 _ (by omega) (by omega) (by omega), hMa, jup_no (by omega)]; exact jup_at
          have s115 : M' 115 (9 + H) = nI c := by
            rw [dF _ _ (by omega), b4 115 _ (by omega) (by omega) (by omega), d4 115 _ (by omega) (by omega) (by omega), hMa]; exact jup_at
          have s116 : M' 115 (9 + (H + 1)) = nI c' := by rw [dF _ _ (by omega), k5]; exact hc2
          have s114 : M' 114 (9 + H) = v := by rw [dF _ _ (by omega), k6]
          have hlx : LX B n K T Pl W hd m' M' (j3 + 1) c' (H + 1) (L + 1) := by
            refine ⟨?_, ?_, ?_, ?_, ?_, ?_, g2, ?_, r7, ?_, by omega, rL, ?_, ?_, fun w hw => ?_, fun i hi => ?_, s116⟩
            · rw [hm', hM']
              exact tx9.cong (fun _ _ _ => rfl) (fun q k a => jup_no (by omega))
            · rw [cF _ _ (by omega), c8 _ _ (by omega) (by omega)]; exact k2
            · rw [dF _ _ (by omega)]; exact k3
            · rw [cF _ _ (by omega), c8 _ _ (by omega) (by omega)]; exact m6d
            · rw [cF _ _ (by omega), c8 _ _ (by omega) (by omega), b3 _ _ (by omega)]; exact g5
            · rw [dF _ _ (by omega), b4 _ _ (by omega) (by omega) (by omega)]; exact g6
            · refine g7.cong ?_ (fun k _ => ⟨r6 k, ?_⟩) ?_ (fun k _ => ⟨?_, ?_⟩)
              · rw [cF _ _ (by omega), c8 _ _ (by omega) (by omega), b3 _ _ (by omega)]
              · rw [cF _ _ (by omega), c8 _ _ (by omega) (by omega), b3 _ _ (by omega)]
              · rw [dF _ _ (by omega), b4 _ _ (by omega) (by omega) (by omega)]
              · rw [dF _ _ (by omega), b4 _ _ (by omega) (by omega) (by omega)]
              · rw [dF _ _ (by omega), b4 _ _ (by omega) (by omega) (by omega)]
            · rw [dF _ _ (by omega)]; exact k4
            · rw [hM']; exact jup_at
            · rw [cF _ _ (by omega), c8 _ _ (by omega) (by omega), c6 _ _ (by omega) (by omega) (by omega) (by omega), dF _ _ (by omega), d7 _ _ (by omega) (by omega) (by omega) (by omega) (by omega)]; exact h.ru
            · rw [cF hd 1 (by omega), c8 hd 1 (by omega) (by omega), c6 hd 1 (by omega) (by omega) (by omega) (by omega), dF 116 _ (by omega), d7 116 _ (by omega) (by omega) (by omega) (by omega) (by omega), cF (hd + 1) w (by omega), c8 (hd + 1) w (by omega) (by omega), c6 (hd + 1) w (by omega) (by omega) (by omega) (by omega)]
              exact h.rl w hw
            · by_cases z : i = H
              · subst z
                refine ⟨fun w hw => ?_, ⟨isR, r2, s113⟩, c, c', g1, Nat.le_refl c', r4, s115, r5, s116, dpOK_cong (fun k _ => r6 _) g8.2.1, ?_⟩
                · rw [r3, s114, hS]
                  by_cases y : v = nI 0
                  · rw [if_pos y, b_63, decide_eq_true hw]
                    exact ⟨fun _ => Or.inl y, fun _ => rfl⟩
                  · rw [if_neg y]
                    exact ⟨Or.inr, fun q => q.resolve_left y⟩
                · rw [dpS_cong (f := m4 (hd + 6)) (fun k _ => r6 _)]
                  exact g8.2.2
              · refine (h.hb i (by omega)).cong (H := H) (fun q k a b d e => ?_) (by omega) (fun q k a b d e f => ?_) g1
                · by_cases y : q = hd + 6
                  · subst y
                    rw [r6, g9 k (d rfl), cA _ _ (by omega)]
                  · rw [cF _ _ (by omega), c8 _ _ (by omega) (by omega), c6 _ _ (by omega) (by omega) (by omega) (by omega)]
                · by_cases y : q = 115 ∧ k = 9 + H
                  · rw [y.1, y.2, s115, h.be]
                  · rw [dF _ _ (by omega), d7 _ _ (by omega) (by omega) (by omega) (by omega) (by omega)]
          refine ⟨m', M', eC _ ?_, eL _ ?_, fun q k a b d => ?_, fun q k a b d e f => ?_, Or.inl ⟨j3 + 1, c', by omega, hlx⟩⟩
          · unfold hbR
            simp only [lits]
            rw [h.dr, nI_clamp (by omega), jgd_hok hh, h.h1, if_pos (nI_lt hH (by omega)), jgd_hok hh, h.tx.at, nI_add, p1, jbd_s, e1, jbd_s, g3, if_pos rfl, b1, jbd_s, k2, if_pos rfl, tok6, nI_clamp (by omega), jgd_ok (by omega) (by omega), if_pos rfl, m6d, nI_clamp (by omega), mhd10]
            by_cases z : v = nI 0
            · rw [if_pos z] at hS
              rw [hS] at eA
              rw [if_pos z, jgd_hok hh, eA, jbd_s, tx8.at, nI_add, y1, jbd_s, hm']
            · rw [if_neg z] at hS
              rw [hS] at eA
              rw [if_neg z, jgd_hok hh, eA, jbd_s, tx8.at, nI_add, y1, jbd_s, hm']
          · have eR : f_M_habit (tI isR) M1 = some ((), M7) := eH _ (by rw [g4, if_pos rfl]; exact b2)
            rw [eR, jbd_s, k3, if_pos rfl, eS, jbd_s, if_neg (by decide), y2, jbd_s, h15, nI_add, jpu_e, hM']
          · rw [cF q k (by omega), c8 q k (by omega) (by omega), c6 q k a b (by omega) (by omega)]
          · rw [dF q k (by omega), d7 q k (by omega) b f (by omega) (by omega)]
        · -- no ; behind it
          rw [decide_eq_false q3] at eS
          refine ⟨flC 1 (Pl j3) m6, wrM 1 (Pl j3) M7, eC _ ?_, eL _ ?_, fL6.tr (frT_fl : frT m6 _).ln, fN7.tr (frU_wr : frU M7 _).nn, Or.inr (FF.fl (by omega) (by omega))⟩
          · unfold hbR
            simp only [lits]
            rw [h.dr, nI_clamp (by omega), jgd_hok hh, h.h1, if_pos (nI_lt hH (by omega)), jgd_hok hh, h.tx.at, nI_add, p1, jbd_s, e1, jbd_s, g3, if_pos rfl, b1, jbd_s, k2, if_pos rfl, tok6, nI_clamp (by omega), jgd_ok (by omega) (by omega), if_neg (by omega), e_fail ts tx6, jbd_s]
          · have eR : f_M_habit (tI isR) M1 = some ((), M7) := eH _ (by rw [g4, if_pos rfl]; exact b2)
            rw [eR, jbd_s, k3, if_pos rfl, eS, jbd_s, if_pos tI_f, e_wrong tx6 k3, jbd_s]
      · obtain ⟨⟨k, k1, k2, k3, k4⟩, -⟩ := id ff
        have k0 : ¬ nI k = nI 0 := fun z => by have := nI_ij (by omega) (by omega) z; omega
        refine ⟨m6, M7, eC _ ?_, eL _ ?_, fL6, fN7, Or.inr ff⟩
        · unfold hbR
          simp only [lits]
          rw [h.dr, nI_clamp (by omega), jgd_hok hh, h.h1, if_pos (nI_lt hH (by omega)), jgd_hok hh, h.tx.at, nI_add, p1, jbd_s, e1, jbd_s, g3, if_pos rfl, b1, jbd_s, k3, if_neg k0]
        · have eR : f_M_habit (tI isR) M1 = some ((), M7) := eH _ (by rw [g4, if_pos rfl]; exact b2)
          rw [eR, jbd_s, k4, if_neg k0]
    · obtain ⟨⟨k, k1, k2, k3, k4⟩, -⟩ := id ff
      have k0 : ¬ nI k = nI 0 := fun z => by have := nI_ij (by omega) (by omega) z; omega
      refine ⟨m4, M4, eC _ ?_, eL _ ?_, fL4, fN4, Or.inr ff⟩
      · unfold hbR
        simp only [lits]
        rw [h.dr, nI_clamp (by omega), jgd_hok hh, h.h1, if_pos (nI_lt hH (by omega)), jgd_hok hh, h.tx.at, nI_add, p1, jbd_s, e1, jbd_s, k3, if_neg k0, if_neg k0]
      · have eR : f_M_habit (tI isR) M1 = some ((), M4) := eH _ (by rw [k4, if_neg k0])
        rw [eR, jbd_s, k4, if_neg k0]
end HB
