/-! days, the whole -/
theorem sim_copies {N C : Nat} {kC kM : jMem → Option (Unit × jMem)} : ∀ (d i : Nat) (m M : jMem) (n n' : Nat), i + d = C → d < n → d < n' → Rel2 N C m M → ∃ m' M', lp_C_bringCopies_2 kC n (nI i) m = kC m' ∧ lp_M_goesBy_12 kM n' (nI i) M = kM M' ∧ Rel2 N C m' M' ∧ m' 1 = m 1 := by
  intro d
  induction d with
  | zero =>
    intro i m M n n' hi hn hn' r
    obtain ⟨n, rfl⟩ := ex_succ hn
    obtain ⟨n', rfl⟩ := ex_succ hn'
    obtain ⟨c1, c2, c3, -⟩ := r.2.2.2.2.2.2.1
    have e : i = C := by omega
    subst e
    refine ⟨m, M, ?_, ?_, r, rfl⟩
    · unfold lp_C_bringCopies_2
      simp only [lits, negs]
      simp (disch := omega) only [lits, negs, nI_add, nn1, leT, leF, ltT, ltF, eqF, mF1, mF2, mF3, mF4, mF5, mF6, mTT, eq_self, Nat.reduceEqDiff, ↓reduceIte, jbd_s, jpu_e, tI0, tI1, jgd_tI, jgd_bb, tfF, ftF, jup_at, jup_oc, jup_ok, c2]
    · unfold lp_M_goesBy_12
      simp only [lits, negs]
      simp (disch := omega) only [lits, negs, nI_add, nn1, leT, leF, ltT, ltF, eqF, mF1, mF2, mF3, mF4, mF5, mF6, mTT, eq_self, Nat.reduceEqDiff, ↓reduceIte, jbd_s, jpu_e, tI0, tI1, jgd_tI, jgd_bb, tfF, ftF, jup_at, jup_oc, jup_ok, c3]
  | succ d ih =>
    intro i m M n n' hi hn hn' r
    obtain ⟨n, rfl⟩ := ex_succ hn
    obtain ⟨n', rfl⟩ := ex_succ hn'
    have h30 := r.1.1
    obtain ⟨c1, c2, c3, ⟨c4, c5, c6, c7, c8⟩, c9⟩ := r.2.2.2.2.2.2.1
    obtain ⟨⟨l, hl, el⟩, -, ⟨t, ht, et⟩, ⟨a, ha, ea⟩, ⟨s, hs, es⟩⟩ := c9 i (by omega)
    obtain ⟨dd, hd, t1, t2⟩ := r.2.2.2.1
    have ea' : M 133 i = nI a := by rw [c7]; exact ea
    have es' : M 134 i = nI s := by rw [c8]; exact es
    by_cases q1 : s = 0
    · subst q1
      by_cases q2 : a = dd
      · subst q2
        have r1 := Rel2_come (i := i) r
        have el1 : M 130 i = nI l := by rw [c4]; exact el
        have et1 : M 132 i = nI t := by rw [c6]; exact et
        have hK : M 135 t = m 42 t ||| m 75 t := (r.2.2.2.2.2.2.2.1.1 t ht).1
        have eM : ∀ c, c ≠ 134 → jup M 134 i (nI 1) c = M c := fun c h => jup_oc h
        have em : ∀ c, c ≠ 64 → jup m 64 i (nI 1) c = m c := fun c h => jup_oc h
        -- what comes of it on both sides
        have key : ∃ m2 M2, f_C_bring (nI l) (nI t) (jup m 64 i (nI 1)) = some ((), m2) ∧ lp_M_goesBy_12 kM (n' + 1) (nI i) M = lp_M_goesBy_12 kM n' (nI (i + 1)) M2 ∧ Rel2 N C m2 M2 ∧ m2 1 = m 1 := by
          have ekn : f_C_knownTo (nI t) (jup m 64 i (nI 1)) = some (m 42 t ||| m 75 t, jup m 64 i (nI 1)) := by
            rw [e_knownTo ht, em 42 (by omega), em 75 (by omega)]
          cases hk : bt (m 42 t ||| m 75 t) l
          · have hk' := hk
            rw [b_or, Bool.or_eq_false_iff] at hk'
            have h3 : ¬ m 30 l = nI t := fun z => by
              have := (r.1.2.2.2.2.2.1 t ht l).mpr ⟨hl, z⟩
              rw [hk'.1] at this
              exact absurd this (by decide)
            have ehd := e_holds (m := jup m 64 i (nI 1)) ht (by omega : l < 30)
            rcases RH2_place (l := l) h30 r1.2.2.2.2.2.2.2.2.1 ht (by omega) with ⟨b1, b2⟩ | ⟨b1, -, k0, hk0, b2⟩
            · rw [b1] at ehd
              obtain ⟨c, hc, x1, x2, -⟩ := r.2.2.2.2.2.2.2.2.1 t ht
              rw [em 74 (by omega)] at b1
              have hcn := RH_less h30 (r.2.2.2.2.2.2.2.2.1 t ht) hl b1 x1 (by omega)
              refine ⟨putC (jup m 64 i (nI 1)) t c l, putM (jup M 134 i (nI 1)) t c l, ?_, ?_, Rel2_putd r1 ht hl (by rw [em 73 (by omega)]; exact x1) hcn (by rw [em 74 (by omega)]; exact b1) (by rw [em 75 (by omega)]; exact hk'.2) (by rw [em 30 (by omega)]; exact h3), ?_⟩
              · have ep : f_D_put (nI t) (nI l) (jup m 64 i (nI 1)) = some ((), putC (jup m 64 i (nI 1)) t c l) := by
                  unfold f_D_put putC
                  simp only [lits, negs]
                  simp (disch := omega) only [lits, negs, nI_add, nn1, leT, leF, ltT, ltF, eqF, mF1, mF2, mF3, mF4, mF5, mF6, mTT, eq_self, Nat.reduceEqDiff, ↓reduceIte, ↓jbd_s, ↓jpu_e, tI0, tI1, jgd_tI, jgd_bb, tfF, ftF, jup_at, jup_oc, jup_ok, ↓jb (e_isWriter (m := jup m 64 i (nI 1)) ht), ↓ld_73, x1, ↓l3_66, ↓str_66, ↓st_73, ↓ld_74, ↓jb (e_bit (m := jup (jup (jup m 64 i (nI 1)) (67 + t) c (nI l)) 73 t (nI (c + 1))) l), ↓st_74]
                unfold f_C_bring
                simp only [lits, negs]
                simp (disch := omega) only [lits, negs, nI_add, nn1, leT, leF, ltT, ltF, eqF, mF1, mF2, mF3, mF4, mF5, mF6, mTT, eq_self, Nat.reduceEqDiff, ↓reduceIte, ↓jbd_s, ↓jpu_e, tI0, tI1, jgd_tI, jgd_bb, tfF, ftF, jup_at, jup_oc, jup_ok, ↓jb (e_isWriter (m := jup m 64 i (nI 1)) ht), ↓jb ekn, ↓jb (e_isIn (v := m 42 t ||| m 75 t) (m := jup m 64 i (nI 1)) (by omega : l < 30)), hk, ↓jb ehd, ↓jb ep]
              · conv => lhs; unfold lp_M_goesBy_12
                simp only [lits, negs]
                simp (disch := omega) only [lits, negs, nI_add, nn1, leT, leF, ltT, ltF, eqF, mF1, mF2, mF3, mF4, mF5, mF6, mTT, eq_self, Nat.reduceEqDiff, ↓reduceIte, ↓jbd_s, ↓jpu_e, tI0, tI1, jgd_tI, jgd_bb, tfF, ftF, jup_at, jup_oc, jup_ok, c3, ↓ld_134, es', ↓ld_133, ea', t2, ↓st_134, ↓ld_132, et1, ↓ld_135, hK, ↓ld_130, el1, bit1, hk, ↓jb b2]
                simp (disch := omega) only [lits, negs, nI_add, nn1, leT, leF, ltT, ltF, eqF, mF1, mF2, mF3, mF4, mF5, mF6, mTT, eq_self, Nat.reduceEqDiff, ↓reduceIte, jbd_s, jpu_e, tI0, tI1, jgd_tI, jgd_bb, tfF, ftF, jup_at, jup_oc, jup_ok, ld_138, x2, pk_mul, st_137, st_138, ld_130, el1]
                rfl
              · show jup _ _ _ _ 1 = _
                rw [jup_oc (by omega), jup_oc (by omega), jup_oc (by omega), em 1 (by omega)]
            · rw [b1] at ehd
              refine ⟨_, _, ?_, ?_, r1, em 1 (by omega)⟩
              · unfold f_C_bring
                simp only [lits, negs]
                simp (disch := omega) only [lits, negs, nI_add, nn1, leT, leF, ltT, ltF, eqF, mF1, mF2, mF3, mF4, mF5, mF6, mTT, eq_self, Nat.reduceEqDiff, ↓reduceIte, ↓jbd_s, ↓jpu_e, tI0, tI1, jgd_tI, jgd_bb, tfF, ftF, jup_at, jup_oc, jup_ok, ↓jb (e_isWriter (m := jup m 64 i (nI 1)) ht), ↓jb ekn, ↓jb (e_isIn (v := m 42 t ||| m 75 t) (m := jup m 64 i (nI 1)) (by omega : l < 30)), hk, ↓jb ehd]
              · conv => lhs; unfold lp_M_goesBy_12
                simp only [lits, negs]
                simp (disch := omega) only [lits, negs, nI_add, nn1, leT, leF, ltT, ltF, eqF, mF1, mF2, mF3, mF4, mF5, mF6, mTT, eq_self, Nat.reduceEqDiff, ↓reduceIte, ↓jbd_s, ↓jpu_e, tI0, tI1, jgd_tI, jgd_bb, tfF, ftF, jup_at, jup_oc, jup_ok, c3, ↓ld_134, es', ↓ld_133, ea', t2, ↓st_134, ↓ld_132, et1, ↓ld_135, hK, ↓ld_130, el1, bit1, hk, ↓jb b2]
          · refine ⟨_, _, ?_, ?_, r1, em 1 (by omega)⟩
            · unfold f_C_bring
              simp only [lits, negs]
              simp (disch := omega) only [lits, negs, nI_add, nn1, leT, leF, ltT, ltF, eqF, mF1, mF2, mF3, mF4, mF5, mF6, mTT, eq_self, Nat.reduceEqDiff, ↓reduceIte, ↓jbd_s, ↓jpu_e, tI0, tI1, jgd_tI, jgd_bb, tfF, ftF, jup_at, jup_oc, jup_ok, ↓jb (e_isWriter (m := jup m 64 i (nI 1)) ht), ↓jb ekn, ↓jb (e_isIn (v := m 42 t ||| m 75 t) (m := jup m 64 i (nI 1)) (by omega : l < 30)), hk]
            · conv => lhs; unfold lp_M_goesBy_12
              simp only [lits, negs]
              simp (disch := omega) only [lits, negs, nI_add, nn1, leT, leF, ltT, ltF, eqF, mF1, mF2, mF3, mF4, mF5, mF6, mTT, eq_self, Nat.reduceEqDiff, ↓reduceIte, ↓jbd_s, ↓jpu_e, tI0, tI1, jgd_tI, jgd_bb, tfF, ftF, jup_at, jup_oc, jup_ok, c3, ↓ld_134, es', ↓ld_133, ea', t2, ↓st_134, ↓ld_132, et1, ↓ld_135, hK, ↓ld_130, el1, bit1, hk]
        obtain ⟨m2, M2, k1, k2, k3, k4⟩ := key
        obtain ⟨m3, M3, e1, e2, e3, e4⟩ := ih (i + 1) m2 M2 n n' (by omega) (by omega) (by omega) k3
        refine ⟨m3, M3, ?_, k2.trans e2, e3, e4.trans k4⟩
        rw [← e1]
        conv => lhs; unfold lp_C_bringCopies_2
        simp only [lits, negs]
        simp (disch := omega) only [lits, negs, nI_add, nn1, leT, leF, ltT, ltF, eqF, mF1, mF2, mF3, mF4, mF5, mF6, mTT, eq_self, Nat.reduceEqDiff, ↓reduceIte, ↓jbd_s, ↓jpu_e, tI0, tI1, jgd_tI, jgd_bb, tfF, ftF, jup_at, jup_oc, jup_ok, c2, ↓ld_64, es, ↓ld_63, ea, t1, ↓st_64, ↓ld_60, el, ↓ld_62, et, ↓jb k1]
      · obtain ⟨m3, M3, e1, e2, e3, e4⟩ := ih (i + 1) m M n n' (by omega) (by omega) (by omega) r
        refine ⟨m3, M3, ?_, ?_, e3, e4⟩
        · rw [← e1]
          conv => lhs; unfold lp_C_bringCopies_2
          simp only [lits, negs]
          simp (disch := omega) only [lits, negs, nI_add, nn1, leT, leF, ltT, ltF, eqF, mF1, mF2, mF3, mF4, mF5, mF6, mTT, eq_self, Nat.reduceEqDiff, ↓reduceIte, ↓jbd_s, ↓jpu_e, tI0, tI1, jgd_tI, jgd_bb, tfF, ftF, jup_at, jup_oc, jup_ok, c2, ↓ld_64, es, ↓ld_63, ea, t1]
        · rw [← e2]
          conv => lhs; unfold lp_M_goesBy_12
          simp only [lits, negs]
          simp (disch := omega) only [lits, negs, nI_add, nn1, leT, leF, ltT, ltF, eqF, mF1, mF2, mF3, mF4, mF5, mF6, mTT, eq_self, Nat.reduceEqDiff, ↓reduceIte, ↓jbd_s, ↓jpu_e, tI0, tI1, jgd_tI, jgd_bb, tfF, ftF, jup_at, jup_oc, jup_ok, c3, ↓ld_134, es', ↓ld_133, ea', t2]
    · obtain ⟨m3, M3, e1, e2, e3, e4⟩ := ih (i + 1) m M n n' (by omega) (by omega) (by omega) r
      refine ⟨m3, M3, ?_, ?_, e3, e4⟩
      · rw [← e1]
        conv => lhs; unfold lp_C_bringCopies_2
        simp only [lits, negs]
        simp (disch := omega) only [lits, negs, nI_add, nn1, leT, leF, ltT, ltF, eqF, mF1, mF2, mF3, mF4, mF5, mF6, mTT, eq_self, Nat.reduceEqDiff, ↓reduceIte, ↓jbd_s, ↓jpu_e, tI0, tI1, jgd_tI, jgd_bb, tfF, ftF, jup_at, jup_oc, jup_ok, c2, ↓ld_64, es]
      · rw [← e2]
        conv => lhs; unfold lp_M_goesBy_12
        simp only [lits, negs]
        simp (disch := omega) only [lits, negs, nI_add, nn1, leT, leF, ltT, ltF, eqF, mF1, mF2, mF3, mF4, mF5, mF6, mTT, eq_self, Nat.reduceEqDiff, ↓reduceIte, ↓jbd_s, ↓jpu_e, tI0, tI1, jgd_tI, jgd_bb, tfF, ftF, jup_at, jup_oc, jup_ok, c3, ↓ld_134, es']
theorem sim_writers {v1 v2 : Int32} {kC : jMem → Option (Int32 × jMem)} {kM : jMem → Option (Unit × jMem)} : ∀ (d w N C : Nat) (m M : jMem) (n n' : Nat), w + d = 6 → d < n → d < n' → Rel2 N C m M → ∃ m' M' N' C', lp_C_days_47 v1 v2 kC n (nI w) m = kC m' ∧ lp_M_goesBy_136 kM n' (nI w) M = kM M' ∧ Rel2 N' C' m' M' ∧ m' 1 = m 1 := by
  intro d
  induction d with
  | zero =>
    intro w N C m M n n' hi hn hn' r
    obtain ⟨n, rfl⟩ := ex_succ hn
    obtain ⟨n', rfl⟩ := ex_succ hn'
    have e : w = 6 := by omega
    subst e
    refine ⟨m, M, N, C, ?_, ?_, r, rfl⟩
    · unfold lp_C_days_47
      simp (disch := omega) only [lits, negs, nI_add, nn1, leT, leF, ltT, ltF, eqF, mF1, mF2, mF3, mF4, mF5, mF6, mTT, eq_self, Nat.reduceEqDiff, ↓reduceIte, jbd_s, jpu_e, tI0, tI1, jgd_tI, jgd_bb, tfF, ftF, jup_at, jup_oc, jup_ok]
    · unfold lp_M_goesBy_136
      simp (disch := omega) only [lits, negs, nI_add, nn1, leT, leF, ltT, ltF, eqF, mF1, mF2, mF3, mF4, mF5, mF6, mTT, eq_self, Nat.reduceEqDiff, ↓reduceIte, jbd_s, jpu_e, tI0, tI1, jgd_tI, jgd_bb, tfF, ftF, jup_at, jup_oc, jup_ok]
  | succ d ih =>
    intro w N C m M n n' hi hn hn' r
    obtain ⟨n, rfl⟩ := ex_succ hn
    obtain ⟨n', rfl⟩ := ex_succ hn'
    have h30 := r.1.1
    obtain ⟨c, hc, x1, -⟩ := r.2.2.2.2.2.2.2.2.1 w (by omega)
    obtain ⟨m1, M1, N1, C1, e1, e2, e3, e4⟩ := sim_clear (kC := fun m => some ((), m)) (kM := fun m24 => lp_M_goesBy_136 kM n' (nI (w + 1)) m24) (by omega : w < 6) c 0 N C m M 5000 5000 r x1 (by omega) (by omega) (by omega)
    obtain ⟨m2, M2, N2, C2, f1, f2, f3, f4⟩ := ih (w + 1) N1 C1 m1 M1 n n' (by omega) (by omega) (by omega) e3
    refine ⟨m2, M2, N2, C2, ?_, ?_, f3, f4.trans e4⟩
    · rw [← f1]
      have ec : f_C_clearDesk (nI w) m = some ((), m1) := e1
      conv => lhs; unfold lp_C_days_47
      simp only [lits, negs]
      simp (disch := omega) only [lits, negs, nI_add, nn1, leT, leF, ltT, ltF, eqF, mF1, mF2, mF3, mF4, mF5, mF6, mTT, eq_self, Nat.reduceEqDiff, ↓reduceIte, ↓jbd_s, ↓jpu_e, tI0, tI1, jgd_tI, jgd_bb, tfF, ftF, jup_at, jup_oc, jup_ok, ↓jb ec]
    · rw [← f2, ← e2]
      conv => lhs; unfold lp_M_goesBy_136
      simp only [lits, negs]
      simp (disch := omega) only [lits, negs, nI_add, nn1, leT, leF, ltT, ltF, eqF, mF1, mF2, mF3, mF4, mF5, mF6, mTT, eq_self, Nat.reduceEqDiff, ↓reduceIte, jbd_s, jpu_e, tI0, tI1, jgd_tI, jgd_bb, tfF, ftF, jup_at, jup_oc, jup_ok]
theorem Rel2_day {N C d : Nat} {m M : jMem} (r : Rel2 N C m M) (hd : d ≤ 999) : Rel2 N C (jup m 1 6 (nI d)) (jup M 109 31 (nI d)) := by
  have e : ∀ c, c ≠ 1 → jup m 1 6 (nI d) c = m c := fun c h => jup_oc h
  have g : ∀ c, c ≠ 109 → jup M 109 31 (nI d) c = M c := fun c h => jup_oc h
  refine Rel2_put (fun c h _ _ => e c h) (jup_ok (by omega)) (jup_ok (by omega)) (jup_ok (by omega)) (fun c h _ _ _ => g c h) (fun k _ h => jup_ok h) ⟨d, hd, jup_at, jup_at⟩ ?_ ?_ r
  · unfold RC2
    rw [e 45 (by omega), e 60 (by omega), e 61 (by omega), e 62 (by omega), e 63 (by omega), e 64 (by omega), jup_ok (by omega : 44 ≠ 31), g 130 (by omega), g 131 (by omega), g 132 (by omega), g 133 (by omega), g 134 (by omega)]
    exact r.2.2.2.2.2.2.1
  · intro w hw
    have := r.2.2.2.2.2.2.2.2.1 w hw
    unfold RHw2 at this ⊢
    rw [e 73 (by omega), e 74 (by omega), e 75 (by omega), e 30 (by omega), e (67 + w) (by omega), g 137 (by omega), g 138 (by omega)]
    exact this
theorem sim_days {T : Nat} {kC kM : jMem → Option (Int32 × jMem)} (hT : T ≤ 99) : ∀ (e i D N C : Nat) (m M : jMem) (n n' : Nat), i + e = T → e < n → e < n' → Rel2 N C m M → m 1 6 = nI D → D + e ≤ 999 → ∃ m' M' N' C', lp_C_days_26 (nI T) kC n (nI i) m = kC m' ∧ lp_M_days_31 (nI T) kM n' (nI i) M = kM M' ∧ Rel2 N' C' m' M' := by
  intro e
  induction e with
  | zero =>
    intro i D N C m M n n' hi hn hn' r hD hDe
    obtain ⟨n, rfl⟩ := ex_succ hn
    obtain ⟨n', rfl⟩ := ex_succ hn'
    have e : i = T := by omega
    subst e
    refine ⟨m, M, N, C, ?_, ?_, r⟩
    · unfold lp_C_days_26
      simp (disch := omega) only [lits, negs, nI_add, nn1, leT, leF, ltT, ltF, eqF, mF1, mF2, mF3, mF4, mF5, mF6, mTT, eq_self, Nat.reduceEqDiff, ↓reduceIte, jbd_s, jpu_e, tI0, tI1, jgd_tI, jgd_bb, tfF, ftF, jup_at, jup_oc, jup_ok]
    · unfold lp_M_days_31
      simp (disch := omega) only [lits, negs, nI_add, nn1, leT, leF, ltT, ltF, eqF, mF1, mF2, mF3, mF4, mF5, mF6, mTT, eq_self, Nat.reduceEqDiff, ↓reduceIte, jbd_s, jpu_e, tI0, tI1, jgd_tI, jgd_bb, tfF, ftF, jup_at, jup_oc, jup_ok]
  | succ e ih =>
    intro i D N C m M n n' hi hn hn' r hD hDe
    obtain ⟨n, rfl⟩ := ex_succ hn
    obtain ⟨n', rfl⟩ := ex_succ hn'
    obtain ⟨dd, hd, t1, t2⟩ := r.2.2.2.1
    have ed : dd = D := (nI_eq (by omega) (by omega)).mp (t1.symm.trans hD)
    subst ed
    have r1 := Rel2_day (d := dd + 1) r (by omega)
    have rc := r1.2.2.2.2.2.2.1
    obtain ⟨m2, M2, e1, e2, e3, e4⟩ := sim_copies (kC := fun m => some ((), m)) (kM := fun m16 => lp_M_goesBy_136 (fun m25 => some ((), m25)) 5000 (nI 0) m16) C 0 _ _ 5000 5000 (by omega) (by have := rc.1; omega) (by have := rc.1; omega) r1
    obtain ⟨m3, M3, N3, C3, f1, f2, f3, f4⟩ := sim_writers (v1 := nI T) (v2 := nI i) (kC := fun m6 => lp_C_days_26 (nI T) kC n (nI (i + 1)) m6) (kM := fun m25 => some ((), m25)) 6 0 N C m2 M2 5000 5000 (by omega) (by omega) (by omega) e3
    obtain ⟨m4, M4, N4, C4, g1, g2, g3⟩ := ih (i + 1) (dd + 1) N3 C3 m3 M3 n n' (by omega) (by omega) (by omega) f3 (by rw [f4, e4]; exact jup_at) (by omega)
    refine ⟨m4, M4, N4, C4, ?_, ?_, g3⟩
    · rw [← g1, ← f1]
      have eb : f_C_bringCopies (jup m 1 6 (nI (dd + 1))) = some ((), m2) := e1
      conv => lhs; unfold lp_C_days_26
      simp only [lits, negs]
      simp (disch := omega) only [lits, negs, nI_add, nn1, leT, leF, ltT, ltF, eqF, mF1, mF2, mF3, mF4, mF5, mF6, mTT, eq_self, Nat.reduceEqDiff, ↓reduceIte, ↓jbd_s, ↓jpu_e, tI0, tI1, jgd_tI, jgd_bb, tfF, ftF, jup_at, jup_oc, jup_ok, hD, ↓jb eb]
    · rw [← g2]
      have eg : f_M_goesBy M = some ((), M3) := by
        rw [← f2, ← e2]
        unfold f_M_goesBy
        simp only [lits, negs]
        simp (disch := omega) only [lits, negs, nI_add, nn1, leT, leF, ltT, ltF, eqF, mF1, mF2, mF3, mF4, mF5, mF6, mTT, eq_self, Nat.reduceEqDiff, ↓reduceIte, ↓jbd_s, ↓jpu_e, tI0, tI1, jgd_tI, jgd_bb, tfF, ftF, jup_at, jup_oc, jup_ok, t2]
      conv => lhs; unfold lp_M_days_31
      simp only [lits, negs]
      simp (disch := omega) only [lits, negs, nI_add, nn1, leT, leF, ltT, ltF, eqF, mF1, mF2, mF3, mF4, mF5, mF6, mTT, eq_self, Nat.reduceEqDiff, ↓reduceIte, ↓jbd_s, ↓jpu_e, tI0, tI1, jgd_tI, jgd_bb, tfF, ftF, jup_at, jup_oc, jup_ok, ↓jb eg]
theorem o_days {N C : Nat} {m : jMem} (r : Rel N C m) (x : Int32) : Ost (f_C_days x) (f_M_days x) m := by
  obtain ⟨d, hd, t1, t2⟩ := r.2.2.2.1
  by_cases h1 : x < nI 0
  · refine Ost.no (v := nM) r ?_ ?_
    · unfold f_C_days
      simp (disch := omega) only [lits, negs, nI_add, nn1, leT, leF, ltT, ltF, eqF, mF1, mF2, mF3, mF4, mF5, mF6, mTT, eq_self, Nat.reduceEqDiff, ↓reduceIte, jbd_s, jpu_e, tI0, tI1, jgd_tI, jgd_bb, tfF, ftF, jup_at, jup_oc, jup_ok, h1]
    · unfold f_M_days
      simp (disch := omega) only [lits, negs, nI_add, nn1, leT, leF, ltT, ltF, eqF, mF1, mF2, mF3, mF4, mF5, mF6, mTT, eq_self, Nat.reduceEqDiff, ↓reduceIte, jbd_s, jpu_e, tI0, tI1, jgd_tI, jgd_bb, tfF, ftF, jup_at, jup_oc, jup_ok, h1]
  · by_cases h2 : nI 99 < x
    · refine Ost.no (v := nM) r ?_ ?_
      · unfold f_C_days
        simp (disch := omega) only [lits, negs, nI_add, nn1, leT, leF, ltT, ltF, eqF, mF1, mF2, mF3, mF4, mF5, mF6, mTT, eq_self, Nat.reduceEqDiff, ↓reduceIte, jbd_s, jpu_e, tI0, tI1, jgd_tI, jgd_bb, tfF, ftF, jup_at, jup_oc, jup_ok, h1, h2]
      · unfold f_M_days
        simp (disch := omega) only [lits, negs, nI_add, nn1, leT, leF, ltT, ltF, eqF, mF1, mF2, mF3, mF4, mF5, mF6, mTT, eq_self, Nat.reduceEqDiff, ↓reduceIte, jbd_s, jpu_e, tI0, tI1, jgd_tI, jgd_bb, tfF, ftF, jup_at, jup_oc, jup_ok, h1, h2]
    · obtain ⟨T, hT, rfl⟩ : ∃ k, k ≤ 99 ∧ x = nI k := nI_of2 (M := nI 99) (n := 99) (nI_toInt (by omega)) h1 (Int32.not_lt.mp h2)
      by_cases h3 : d + T ≤ 999
      · refine Ost.two r (fun M r2 => ?_) fr_C_days fr_M_days rfl rfl
        obtain ⟨d', hd', t1', t2'⟩ := r2.2.2.2.1
        have ed : d' = d := (nI_eq (by omega) (by omega)).mp (t1'.symm.trans t1)
        subst ed
        obtain ⟨m1, M1, N1, C1, e1, e2, e3⟩ := sim_days (kC := fun m7 => some ((m7 1 6), m7)) (kM := fun m4 => some ((m4 109 31), m4)) hT T 0 d' N C m (jup M 109 0 (nI 0)) 5000 5000 (by omega) (by omega) (by omega) (thr_two r2) t1 (by omega)
        obtain ⟨d9, -, s1, s2⟩ := e3.2.2.2.1
        refine ⟨m1 1 6, m1, M1, N1, C1, ?_, ?_, e3⟩
        · rw [← e1]
          unfold f_C_days
          simp (disch := omega) only [lits, negs, nI_add, nn1, leT, leF, ltT, ltF, eqF, mF1, mF2, mF3, mF4, mF5, mF6, mTT, eq_self, Nat.reduceEqDiff, ↓reduceIte, jbd_s, jpu_e, tI0, tI1, jgd_tI, jgd_bb, tfF, ftF, jup_at, jup_oc, jup_ok, t1]
        · rw [s1, ← s2, ← e2]
          unfold f_M_days
          simp (disch := omega) only [lits, negs, nI_add, nn1, leT, leF, ltT, ltF, eqF, mF1, mF2, mF3, mF4, mF5, mF6, mTT, eq_self, Nat.reduceEqDiff, ↓reduceIte, jbd_s, jpu_e, tI0, tI1, jgd_tI, jgd_bb, tfF, ftF, jup_at, jup_oc, jup_ok, t2']
      · refine Ost.no (v := nM) r ?_ ?_
        · unfold f_C_days
          simp (disch := omega) only [lits, negs, nI_add, nn1, leT, leF, ltT, ltF, eqF, mF1, mF2, mF3, mF4, mF5, mF6, mTT, eq_self, Nat.reduceEqDiff, ↓reduceIte, jbd_s, jpu_e, tI0, tI1, jgd_tI, jgd_bb, tfF, ftF, jup_at, jup_oc, jup_ok, t1]
        · unfold f_M_days
          simp (disch := omega) only [lits, negs, nI_add, nn1, leT, leF, ltT, ltF, eqF, mF1, mF2, mF3, mF4, mF5, mF6, mTT, eq_self, Nat.reduceEqDiff, ↓reduceIte, jbd_s, jpu_e, tI0, tI1, jgd_tI, jgd_bb, tfF, ftF, jup_at, jup_oc, jup_ok, t2]
