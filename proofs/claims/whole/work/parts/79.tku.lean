/-! a letter is taken up -/
theorem RH2_place {N w l : Nat} {m M : jMem} (h30 : N ≤ 30) (rh : RH2 N m M) (hw : w < 6) (hl : l < 32) : (bt (m 74 w) l = false ∧ f_M_deskPlace (nI w) (nI l) M = some (nM, M)) ∨ (bt (m 74 w) l = true ∧ l < N ∧ ∃ k0, k0 < 30 ∧ f_M_deskPlace (nI w) (nI l) M = some (nI k0, M)) := by
  obtain ⟨c, hc, c0, c1, c2, c3, c4⟩ := rh w hw
  cases hq : bt (m 74 w) l
  · refine Or.inl ⟨rfl, e_dpN hw (by omega) c1 (fun k hk e => ?_)⟩
    rw [(c2 k hk).1] at e
    have := (c4 l hl).mpr ⟨k, hk, e⟩
    rw [hq] at this; exact absurd this (by decide)
  · obtain ⟨k, hk, e⟩ := (c4 l hl).mp hq
    obtain ⟨e1, l2, hl2, e2, -⟩ := c2 k hk
    have hln : l < N := by
      rw [e] at e2
      have := (nI_eq (by omega) (by omega)).mp e2
      omega
    refine Or.inr ⟨rfl, hln, k, by omega, e_dpY hw (by omega) c1 hk (by rw [(c2 k hk).1, e]) (fun j hj e2 => ?_)⟩
    rw [(c2 j (by omega)).1] at e2
    exact c3 j k hj hk (e2.trans e.symm)
theorem RH2_place_no {N w : Nat} {x : Int32} {m M : jMem} (h30 : N ≤ 30) (rh : RH2 N m M) (hw : w < 6) (hx : x < nI 0 ∨ nI N ≤ x) : f_M_deskPlace (nI w) x M = some (nM, M) := by
  obtain ⟨c, hc, c0, c1, c2, c3, c4⟩ := rh w hw
  refine e_dpN hw (by omega) c1 (fun k hk e => ?_)
  obtain ⟨e1, l, hl, e2, -⟩ := c2 k hk
  rw [e1, e2] at e
  subst e
  rcases hx with h | h
  · exact nI_pos (by omega) h
  · exact nI_ge hl (by omega) h
/-- the reference enters a letter, if there is room -/
def roomM (w : Nat) (to : Int32) (l : Nat) (M : jMem) : Option (Unit × jMem) :=
  jbd (f_M_hasRoom to M) fun x m7 =>
  if x = nI 0 then some ((), m7) else jbd (f_M_written (nI w) to (nI 0) (nI l) nM m7) fun _ m9 => some ((), m9)
theorem sim_room {N C w l : Nat} {to : Int32} {m M : jMem} (r : Rel2 N C m M) (hw : w < 6) (hl : l < N) (h5 : bt to w = false) (h6 : ∀ j, bt to j = true → j < 6) : ∃ x m' M' N' C', f_C_enter (nI w) to (nI 0) (nI l) nM m = some (x, m') ∧ roomM w to l M = some ((), M') ∧ Rel2 N' C' m' M' ∧ ∀ c, c < 29 ∨ 64 < c → m' c = m c := by
  have h30 := r.1.1
  have rc := r.2.2.2.2.2.2.1
  have rk := r.2.2.2.2.2.2.2.1
  have h31 : bt to 31 = false := by
    cases q : bt to 31
    · rfl
    · have := h6 31 q; omega
  have hK : ∀ j, bt (m 42 w ||| m 75 w) j = true → j < N := fun j hj => by
    rw [b_or, Bool.or_eq_true] at hj
    rcases hj with hj | hj
    · exact ((r.1.2.2.2.2.2.1 w hw j).mp hj).1
    · exact ((rk.1 w hw).2.1 j hj).1
  have er := e_hasRoom (y := to) (M := M) r.1.2.2.1 h30 rc.2.2.1 rc.1 h31
  by_cases hroom : N < 30 ∧ C + pcnt to ≤ 150
  · obtain ⟨m', M', C', e1, e2, e3, e4, -⟩ := sim_enter (kd := nI 0) (to := to) (one := nI l) (oth := nM) r ⟨hroom.1, hw, ⟨0, by omega, rfl⟩, h5, h6, Or.inr ⟨l, hl, rfl⟩, Or.inl rfl, fun _ => rfl, fun h => absurd rfl h, fun h => absurd h (by decide), hK⟩ hroom.2
    rw [decide_eq_true hroom.1, decide_eq_true hroom.2] at er
    refine ⟨nI N, m', M', N + 1, C', e1, ?_, e3, fun c hc => funext fun k => e4 c k (by omega) (by omega) (by omega)⟩
    unfold roomM
    simp (disch := omega) only [lits, negs, nI_add, nn1, leT, leF, ltT, ltF, eqF, mF1, mF2, mF3, mF4, mF5, mF6, mTT, eq_self, Nat.reduceEqDiff, ↓reduceIte, ↓jbd_s, ↓jpu_e, tI0, tI1, jgd_tI, jgd_bb, tfF, ftF, jup_at, jup_oc, jup_ok, ↓jb er, ↓jb e2]
    rfl
  · have er0 : (decide (N < 30) && decide (C + pcnt to ≤ 150)) = false := by
      by_cases q : N < 30
      · rw [decide_eq_false (fun z => hroom ⟨q, z⟩), Bool.and_false]
      · rw [decide_eq_false q, Bool.false_and]
    rw [er0] at er
    refine ⟨nM, m, M, N, C, ?_, ?_, r, fun _ _ => rfl⟩
    · unfold f_C_enter
      have hp := pcnt_le to
      have hC2 := rc.1
      simp only [lits, negs]
      by_cases q : N < 30
      · have q2 : ¬ C + pcnt to ≤ 150 := fun z => hroom ⟨q, z⟩
        simp (disch := omega) only [lits, negs, nI_add, nn1, leT, leF, ltT, ltF, eqF, mF1, mF2, mF3, mF4, mF5, mF6, mTT, eq_self, Nat.reduceEqDiff, ↓reduceIte, ↓jbd_s, ↓jpu_e, tI0, tI1, jgd_tI, jgd_bb, tfF, ftF, jup_at, jup_oc, jup_ok, r.1.2.1, ↓jb (e_bitCount (x := to) (m := m)), rc.2.1]
      · simp (disch := omega) only [lits, negs, nI_add, nn1, leT, leF, ltT, ltF, eqF, mF1, mF2, mF3, mF4, mF5, mF6, mTT, eq_self, Nat.reduceEqDiff, ↓reduceIte, ↓jbd_s, ↓jpu_e, tI0, tI1, jgd_tI, jgd_bb, tfF, ftF, jup_at, jup_oc, jup_ok, r.1.2.1]
    · unfold roomM
      simp (disch := omega) only [lits, negs, nI_add, nn1, leT, leF, ltT, ltF, eqF, mF1, mF2, mF3, mF4, mF5, mF6, mTT, eq_self, Nat.reduceEqDiff, ↓reduceIte, ↓jbd_s, ↓jpu_e, tI0, tI1, jgd_tI, jgd_bb, tfF, ftF, jup_at, jup_oc, jup_ok, ↓jb er]
theorem b_tell {w j : Nat} (hw : w < 6) (h : bt (nI 63 &&& (sb w ^^^ nM)) j = true) : j < 6 := by
  have hj := bt_big h
  rw [b_and, Bool.and_eq_true] at h
  have h1 := h.1
  rw [bt_nI hj] at h1
  rcases Nat.lt_or_ge j 6 with q | q
  · exact q
  · rw [Nat.testBit_lt_two_pow (Nat.lt_of_lt_of_le (by omega : 63 < 2 ^ 6) (Nat.pow_le_pow_right (by omega) q))] at h1
    exact absurd h1 (by decide)
theorem sim_lines {w l hb H : Nat} {kC kM : jMem → Option (Unit × jMem)} (hw : w < 6) (hh : hb = 3 ∨ hb = 12) (hH : H ≤ 8) : ∀ (d i N C : Nat) (m M : jMem) (n n' : Nat), i + d = H → d < n → d < n' → Rel2 N C m M → m 1 2 = nI hb → m hb 7 = nI H → bt (m 75 w) l = true → ∃ m' M' N' C', lp_C_takeUp_15 (nI w) (nI l) kC n (nI i) m = kC m' ∧ lp_M_readsNow_103 (nI w) (nI l) kM n' (nI i) M = kM M' ∧ Rel2 N' C' m' M' ∧ (∀ c, 64 < c → m' c = m c) ∧ m' 1 = m 1 := by
  obtain ⟨l6, l7, l8, l4, l5, l3, l2⟩ := jhlen hh
  have ecl : (nI hb).toNatClampNeg = hb := nI_clamp (by omega)
  have h29 : hb < 29 := by omega
  have h20 : hb ≤ 12 := by omega
  intro d
  induction d with
  | zero =>
    intro i N C m M n n' hi hn hn' r h2 h7 hl
    obtain ⟨n, rfl⟩ := ex_succ hn
    obtain ⟨n', rfl⟩ := ex_succ hn'
    obtain ⟨hb', hd', x0, x1, -, -, -, -, -, H', x6, x7, x8, -⟩ := r.2.2.2.2.2.2.2.2.2.2
    have eb : hb' = hb := (nI_eq (by omega) (by omega)).mp (x1.symm.trans h2)
    subst eb
    have eH : H' = H := (nI_eq (by omega) (by omega)).mp (x7.symm.trans h7)
    subst eH
    have e : i = H' := by omega
    subst e
    refine ⟨m, M, N, C, ?_, ?_, r, fun _ _ => rfl, rfl⟩
    · unfold lp_C_takeUp_15
      simp only [lits, negs]
      simp (disch := omega) only [lits, negs, nI_add, nn1, leT, leF, ltT, ltF, eqF, mF1, mF2, mF3, mF4, mF5, mF6, mTT, eq_self, Nat.reduceEqDiff, ↓reduceIte, jbd_s, jpu_e, tI0, tI1, jgd_tI, jgd_bb, tfF, ftF, jup_at, jup_oc, jup_ok, h2, ecl, jgd_hok hh, h7]
    · unfold lp_M_readsNow_103
      simp only [lits, negs]
      simp (disch := omega) only [lits, negs, nI_add, nn1, leT, leF, ltT, ltF, eqF, mF1, mF2, mF3, mF4, mF5, mF6, mTT, eq_self, Nat.reduceEqDiff, ↓reduceIte, jbd_s, jpu_e, tI0, tI1, jgd_tI, jgd_bb, tfF, ftF, jup_at, jup_oc, jup_ok, x8]
  | succ d ih =>
    intro i N C m M n n' hi hn hn' r h2 h7 hl
    obtain ⟨n, rfl⟩ := ex_succ hn
    obtain ⟨n', rfl⟩ := ex_succ hn'
    have h30 := r.1.1
    obtain ⟨hb', hd', x0, x1, -, -, -, -, -, H', x6, x7, x8, x9⟩ := r.2.2.2.2.2.2.2.2.2.2
    have eb : hb' = hb := (nI_eq (by omega) (by omega)).mp (x1.symm.trans h2)
    subst eb
    have eH : H' = H := (nI_eq (by omega) (by omega)).mp (x7.symm.trans h7)
    subst eH
    obtain ⟨y1', ⟨z, y2, y3⟩, -⟩ := x9 i (by omega)
    have y1 := y1' w hw
    obtain ⟨dd, hd, t1, t2⟩ := r.2.2.2.1
    have rk := r.2.2.2.2.2.2.2.1
    obtain ⟨hlN, hlw⟩ := (rk.1 w hw).2.1 l hl
    -- does it tell the writer anything
    have hwh : (∃ m' M' N' C', bt (m (hb' + 3) i) w = true ∧ (∀ (K : jMem → Option (Unit × jMem)), (jbd (f_C_gatherFacts (nI w) (nI l) m) fun u8 m9 =>
            jgd (jhok (m9 1 2).toNatClampNeg) (
              jbd (f_H_holds (m9 1 2).toNatClampNeg (nI i) 28 m9) fun x10 m11 =>
              if x10 = nI 0 then K m11
              else
                jgd (jhok (m11 1 2).toNatClampNeg) (
                  jld 2 m11 ((m11 1 2).toNatClampNeg + 2) (nI i) fun x14 =>
                  if x14 = nI 0 then
                    jld 1 m11 30 (nI l) fun x15 =>
                    jbd (f_C_bit x15 m11) fun x16 m17 =>
                    jbd (f_C_enter (nI w) x16 (nI 0) (nI l) nM m17) fun x18 m19 => K m19
                  else
                    jbd (f_C_bit (nI w) m11) fun x20 m21 =>
                    jbd (f_C_enter (nI w) (nI 63 &&& (x20 ^^^ nM)) (nI 0) (nI l) nM m21) fun x22 m23 => K m23))) = K m') ∧ f_M_answers (nI i) (nI w) (nI l) M = some ((), M') ∧ Rel2 N' C' m' M' ∧ (∀ c, 64 < c → m' c = m c) ∧ m' 1 = m 1 ∧ m' hb' 7 = m hb' 7) ∨ bt (m (hb' + 3) i) w = false := by
      cases hq : bt (m (hb' + 3) i) w
      · exact Or.inr rfl
      · refine Or.inl ?_
        obtain ⟨m2, g1, g2, g3⟩ := e_gather (m := m) (M := M) r.1 hw hlN t1
        obtain ⟨M2, k1, k2, k3⟩ := e_ansM (h := i) (m := m) (M := M) r.1 rk hw hlN t2
        have r2 : Rel2 N C m2 M2 := Rel2_sc (fun c _ _ a => g2 c a) (fun c a _ b _ => k2 c a b) (fun k _ _ => by rw [k2 109 (by omega) (by omega)]) r
        have rx2 := r2.2.2.2.2.2.2.2.2.2.2
        obtain ⟨hb2, hd2, z0, z1, -, -, -, -, -, H2, z6, z7, z8, z9⟩ := rx2
        have eb2 : hb2 = hb' := (nI_eq (by omega) (by omega)).mp (z1.symm.trans (by rw [g2 1 (by omega)]; exact h2))
        subst eb2
        have eH2 : H2 = H' := (nI_eq (by omega) (by omega)).mp (z7.symm.trans (by rw [g2 hb2 (by omega)]; exact h7))
        subst eH2
        obtain ⟨V, m3, M3, s1, s2, s3, s4⟩ := sim_holds hh (by omega : i < H2) z6 z7 (z9 i (by omega)) (fun j hj => by rw [g3 j hj, k3 j hj])
        have r3 : Rel2 N C m3 M3 := Rel2_sc (fun c a b _ => s3 c (by omega)) (fun c _ a _ b => funext fun k => s4 c k a (fun q => b q.1)) (fun k a _ => s4 109 k (by omega) (fun q => a q.2)) r2
        have e2 : m2 1 = m 1 := g2 1 (by omega)
        have e3 : m3 1 = m 1 := by rw [s3 1 (by omega)]; exact e2
        have f3 : ∀ c, c ≠ 28 → c ≠ hb2 + 8 → m3 c = m c := fun c a b => by rw [s3 c b, g2 c a]
        have hM113 : M2 113 i = tI z := by rw [k2 113 (by omega) (by omega)]; exact y3
        have hm2z : m3 (hb2 + 2) i = tI z := by rw [f3 (hb2 + 2) (by omega) (by omega)]; exact y2
        have hl30 : m3 30 l = m 30 l := by rw [f3 30 (by omega) (by omega)]
        obtain ⟨⟨a, ha, ea⟩, -⟩ := r.1.2.2.2.2.1 l hlN
        have hM121 : M2 121 l = nI a := by rw [k2 121 (by omega) (by omega), r.1.2.2.2.1.1]; exact ea
        have haw : a ≠ w := fun q => hlw (by rw [ea, q])
        cases V
        · -- it does not hold
          refine ⟨m3, M3, N, C, rfl, fun K => ?_, ?_, r3, fun c hc => f3 c (by omega) (by omega), e3, by rw [f3 hb2 (by omega) (by omega)]⟩
          · simp (disch := omega) only [lits, negs, nI_add, nn1, leT, leF, ltT, ltF, eqF, mF1, mF2, mF3, mF4, mF5, mF6, mTT, eq_self, Nat.reduceEqDiff, ↓reduceIte, ↓jbd_s, ↓jpu_e, tI0, tI1, jgd_tI, jgd_bb, tfF, ftF, jup_at, jup_oc, jup_ok, ↓jb g1, e2, h2, ecl, jgd_hok hh, ↓jb s1]
          · rw [k1]
            unfold anGo
            cases z <;> simp (disch := omega) only [lits, negs, nI_add, nn1, leT, leF, ltT, ltF, eqF, mF1, mF2, mF3, mF4, mF5, mF6, mTT, eq_self, Nat.reduceEqDiff, ↓reduceIte, ↓jbd_s, ↓jpu_e, tI0, tI1, jgd_tI, jgd_bb, tfF, ftF, jup_at, jup_oc, jup_ok, ↓ld_113, hM113, ↓jb s2]
        · cases z
          · obtain ⟨x, m4, M4, N4, C4, v1, v2, v3, v4⟩ := sim_room (to := sb a) r3 hw hlN (by rw [b_sb (by omega) (by omega), decide_eq_false (by omega)]) (fun j hj => by rw [b_sb (by omega) (bt_big hj), decide_eq_true_iff] at hj; omega)
            refine ⟨m4, M4, N4, C4, rfl, fun K => ?_, ?_, v3, fun c hc => by rw [v4 c (Or.inr hc)]; exact f3 c (by omega) (by omega), by rw [v4 1 (by omega)]; exact e3, by rw [v4 hb2 (by omega), f3 hb2 (by omega) (by omega)]⟩
            · simp (disch := omega) only [lits, negs, nI_add, nn1, leT, leF, ltT, ltF, eqF, mF1, mF2, mF3, mF4, mF5, mF6, mTT, eq_self, Nat.reduceEqDiff, ↓reduceIte, ↓jbd_s, ↓jpu_e, tI0, tI1, jgd_tI, jgd_bb, tfF, ftF, jup_at, jup_oc, jup_ok, ↓jb g1, e2, h2, ecl, jgd_hok hh, ↓jb s1, e3, jld_nI l2, hm2z, ↓ld_30, hl30, ea, ↓jb (e_bit (m := m3) a), ↓jb v1]
            · rw [k1]
              unfold anGo
              unfold roomM at v2
              simp (disch := omega) only [lits, negs, nI_add, nn1, leT, leF, ltT, ltF, eqF, mF1, mF2, mF3, mF4, mF5, mF6, mTT, eq_self, Nat.reduceEqDiff, ↓reduceIte, ↓jbd_s, ↓jpu_e, tI0, tI1, jgd_tI, jgd_bb, tfF, ftF, jup_at, jup_oc, jup_ok, ↓ld_113, hM113, ↓jb s2, hM121, sb_e]
              exact v2
          · obtain ⟨x, m4, M4, N4, C4, v1, v2, v3, v4⟩ := sim_room (to := nI 63 &&& (sb w ^^^ nM)) r3 hw hlN (by rw [b_and, b_not (by omega), b_sb (by omega) (by omega), decide_eq_true rfl]; cases bt (nI 63) w <;> rfl) (fun j hj => b_tell hw hj)
            refine ⟨m4, M4, N4, C4, rfl, fun K => ?_, ?_, v3, fun c hc => by rw [v4 c (Or.inr hc)]; exact f3 c (by omega) (by omega), by rw [v4 1 (by omega)]; exact e3, by rw [v4 hb2 (by omega), f3 hb2 (by omega) (by omega)]⟩
            · simp (disch := omega) only [lits, negs, nI_add, nn1, leT, leF, ltT, ltF, eqF, mF1, mF2, mF3, mF4, mF5, mF6, mTT, eq_self, Nat.reduceEqDiff, ↓reduceIte, ↓jbd_s, ↓jpu_e, tI0, tI1, jgd_tI, jgd_bb, tfF, ftF, jup_at, jup_oc, jup_ok, ↓jb g1, e2, h2, ecl, jgd_hok hh, ↓jb s1, e3, jld_nI l2, hm2z, ↓jb (e_bit (m := m3) w), ↓jb v1]
            · rw [k1]
              unfold anGo
              unfold roomM at v2
              simp (disch := omega) only [lits, negs, nI_add, nn1, leT, leF, ltT, ltF, eqF, mF1, mF2, mF3, mF4, mF5, mF6, mTT, eq_self, Nat.reduceEqDiff, ↓reduceIte, ↓jbd_s, ↓jpu_e, tI0, tI1, jgd_tI, jgd_bb, tfF, ftF, jup_at, jup_oc, jup_ok, ↓ld_113, hM113, ↓jb s2, sb_e]
              exact v2
    rcases hwh with ⟨m', M', N', C', b1, b2, b3, b4, b5, b6, b7⟩ | b1
    · obtain ⟨m5, M5, N5, C5, e1, e2, e3, e4, e5⟩ := ih (i + 1) N' C' m' M' n n' (by omega) (by omega) (by omega) b4 (by rw [b6]; exact h2) (by rw [b7]; exact h7) (by rw [b5 75 (by omega)]; exact hl)
      refine ⟨m5, M5, N5, C5, ?_, ?_, e3, fun c hc => by rw [e4 c hc, b5 c hc], by rw [e5, b6]⟩
      · refine Eq.trans ?_ ((b2 (fun q => lp_C_takeUp_15 (nI w) (nI l) kC n (nI (i + 1)) q)).trans e1)
        conv => lhs; unfold lp_C_takeUp_15
        simp only [lits, negs]
        simp (disch := omega) only [lits, negs, nI_add, nn1, leT, leF, ltT, ltF, eqF, mF1, mF2, mF3, mF4, mF5, mF6, mTT, eq_self, Nat.reduceEqDiff, ↓reduceIte, ↓jbd_s, ↓jpu_e, tI0, tI1, jgd_tI, jgd_bb, tfF, ftF, jup_at, jup_oc, jup_ok, h2, ecl, jgd_hok hh, h7, jld_nI l3, ↓jb (e_isIn (v := m (hb' + 3) i) (m := m) (by omega : w < 30)), b1]
      · rw [← e2]
        conv => lhs; unfold lp_M_readsNow_103
        simp only [lits, negs]
        rcases y1.mp b1 with q | q
        · simp (disch := omega) only [lits, negs, nI_add, nn1, leT, leF, ltT, ltF, eqF, mF1, mF2, mF3, mF4, mF5, mF6, mTT, eq_self, Nat.reduceEqDiff, ↓reduceIte, ↓jbd_s, ↓jpu_e, tI0, tI1, jgd_tI, jgd_bb, tfF, ftF, jup_at, jup_oc, jup_ok, x8, ↓ld_114, q, ↓jb b3]
        · by_cases q0 : M 114 i = nI 0
          · simp (disch := omega) only [lits, negs, nI_add, nn1, leT, leF, ltT, ltF, eqF, mF1, mF2, mF3, mF4, mF5, mF6, mTT, eq_self, Nat.reduceEqDiff, ↓reduceIte, ↓jbd_s, ↓jpu_e, tI0, tI1, jgd_tI, jgd_bb, tfF, ftF, jup_at, jup_oc, jup_ok, x8, ↓ld_114, q0, ↓jb b3]
          · simp (disch := omega) only [lits, negs, nI_add, nn1, leT, leF, ltT, ltF, eqF, mF1, mF2, mF3, mF4, mF5, mF6, mTT, eq_self, Nat.reduceEqDiff, ↓reduceIte, ↓jbd_s, ↓jpu_e, tI0, tI1, jgd_tI, jgd_bb, tfF, ftF, jup_at, jup_oc, jup_ok, x8, ↓ld_114, q0, bit1, q, ↓jb b3]
    · obtain ⟨m5, M5, N5, C5, e1, e2, e3, e4, e5⟩ := ih (i + 1) N C m M n n' (by omega) (by omega) (by omega) r h2 h7 hl
      refine ⟨m5, M5, N5, C5, ?_, ?_, e3, e4, e5⟩
      · rw [← e1]
        conv => lhs; unfold lp_C_takeUp_15
        simp only [lits, negs]
        simp (disch := omega) only [lits, negs, nI_add, nn1, leT, leF, ltT, ltF, eqF, mF1, mF2, mF3, mF4, mF5, mF6, mTT, eq_self, Nat.reduceEqDiff, ↓reduceIte, ↓jbd_s, ↓jpu_e, tI0, tI1, jgd_tI, jgd_bb, tfF, ftF, jup_at, jup_oc, jup_ok, h2, ecl, jgd_hok hh, h7, jld_nI l3, ↓jb (e_isIn (v := m (hb' + 3) i) (m := m) (by omega : w < 30)), b1]
      · rw [← e2]
        conv => lhs; unfold lp_M_readsNow_103
        simp only [lits, negs]
        have q0 : ¬ M 114 i = nI 0 := fun q => by
          rw [y1.mpr (Or.inl q)] at b1
          exact absurd b1 (by decide)
        have q1 : bt (M 114 i) w = false := by
          cases q : bt (M 114 i) w
          · rfl
          · rw [y1.mpr (Or.inr q)] at b1
            exact absurd b1 (by decide)
        simp (disch := omega) only [lits, negs, nI_add, nn1, leT, leF, ltT, ltF, eqF, mF1, mF2, mF3, mF4, mF5, mF6, mTT, eq_self, Nat.reduceEqDiff, ↓reduceIte, ↓jbd_s, ↓jpu_e, tI0, tI1, jgd_tI, jgd_bb, tfF, ftF, jup_at, jup_oc, jup_ok, x8, ↓ld_114, q0, bit1, q1]
/-- both take a letter up -/
theorem sim_up {N C w l : Nat} {m M : jMem} (r : Rel2 N C m M) (hw : w < 6) (hl : bt (m 74 w) l = true) : ∃ m' M' N' C', f_C_takeUp (nI w) (nI l) m = some ((), m') ∧ f_M_readsNow (nI w) (nI l) M = some ((), M') ∧ Rel2 N' C' m' M' ∧ m' 1 = m 1 ∧ (∃ c, m 73 w = nI (c + 1) ∧ m' 73 w = nI c) ∧ (∀ x, x ≠ w → x < 6 → m' 73 x = m 73 x) := by
  obtain ⟨m1, M1, e1, e2, r1, hb1, ⟨c, c1, c2⟩, e3, e4, e5⟩ := sim_take r hw hl
  obtain ⟨hb, hd, x0, x1, -, -, -, -, -, H, x6, x7, x8, -⟩ := r1.2.2.2.2.2.2.2.2.2.2
  obtain ⟨m', M', N', C', g1, g2, g3, g4, g5⟩ := sim_lines (kC := fun m24 => some ((), m24)) (kM := fun m19 => some ((), m19)) hw (by omega : hb = 3 ∨ hb = 12) x6 H 0 N C m1 M1 5000 5000 (by omega) (by omega) (by omega) r1 x1 x7 hb1
  refine ⟨m', M', N', C', ?_, by rw [e2, g2], g3, by rw [g5, e3], ⟨c, c1, by rw [g4 73 (by omega)]; exact c2⟩, fun x h1 h2 => by rw [g4 73 (by omega)]; exact e5 x h1 h2⟩
  unfold f_C_takeUp
  simp only [lits, negs]
  rw [e1, jbd_s, g1]
theorem o_read {N C : Nat} {m : jMem} (r : Rel N C m) (x y : Int32) : Ost (f_C_read x y) (f_M_read x y) m := by
  have h30 := r.1.1
  have rh := r.2.2.2.2.2.2.2.2.1
  rcases ixW x with hx | ⟨w, hw, rfl⟩
  · refine Ost.no (v := nM) r ?_ ?_
    · unfold f_C_read f_D_holds
      simp (disch := omega) only [lits, negs, nI_add, nn1, leT, leF, ltT, ltF, eqF, mF1, mF2, mF3, mF4, mF5, mF6, mTT, eq_self, Nat.reduceEqDiff, ↓reduceIte, jbd_s, jpu_e, tI0, tI1, jgd_tI, jgd_bb, tfF, ftF, jup_at, jup_oc, jup_ok, e_isWriter_no hx]
    · unfold f_M_read
      simp only [lits, negs]
      simp (disch := omega) only [lits, negs, nI_add, nn1, leT, leF, ltT, ltF, eqF, mF1, mF2, mF3, mF4, mF5, mF6, mTT, eq_self, Nat.reduceEqDiff, ↓reduceIte, ↓jbd_s, ↓jpu_e, tI0, tI1, jgd_tI, jgd_bb, tfF, ftF, jup_at, jup_oc, jup_ok, ↓jb (e_MisWriter_no (m := jup m 109 0 (nI 0)) hx)]
  · rcases ixN y (n := 30) (by omega) with hy | ⟨l, hl, rfl⟩
    · refine Ost.no (v := nM) r ?_ ?_
      · unfold f_C_read
        simp only [lits, negs]
        simp (disch := omega) only [lits, negs, nI_add, nn1, leT, leF, ltT, ltF, eqF, mF1, mF2, mF3, mF4, mF5, mF6, mTT, eq_self, Nat.reduceEqDiff, ↓reduceIte, ↓jbd_s, ↓jpu_e, tI0, tI1, jgd_tI, jgd_bb, tfF, ftF, jup_at, jup_oc, jup_ok, ↓jb (e_holds_no (m := m) hw hy)]
      · have e := RH2_place_no (x := y) h30 (thr_two (v := nI 0) r.two).2.2.2.2.2.2.2.2.1 hw (by
          rcases hy with h | h
          · exact Or.inl h
          · refine Or.inr ?_
            rw [Int32.le_iff_toInt_le] at h ⊢
            rw [nI_toInt (by omega)] at h ⊢
            omega)
        unfold f_M_read
        simp only [lits, negs]
        simp (disch := omega) only [lits, negs, nI_add, nn1, leT, leF, ltT, ltF, eqF, mF1, mF2, mF3, mF4, mF5, mF6, mTT, eq_self, Nat.reduceEqDiff, ↓reduceIte, ↓jbd_s, ↓jpu_e, tI0, tI1, jgd_tI, jgd_bb, tfF, ftF, jup_at, jup_oc, jup_ok, ↓jb (e_MisWriter (m := jup m 109 0 (nI 0)) hw), ↓jb e]
    · refine Ost.two r (fun M r2 => ?_) fr_C_read fr_M_read rfl rfl
      have r3 := thr_two (v := nI 0) r2
      rcases RH2_place (l := l) h30 r3.2.2.2.2.2.2.2.2.1 hw (by omega) with ⟨b1, b2⟩ | ⟨b1, -, k0, hk0, b2⟩
      · refine ⟨nM, m, _, N, C, ?_, ?_, r3⟩
        · unfold f_C_read
          simp only [lits, negs]
          simp (disch := omega) only [lits, negs, nI_add, nn1, leT, leF, ltT, ltF, eqF, mF1, mF2, mF3, mF4, mF5, mF6, mTT, eq_self, Nat.reduceEqDiff, ↓reduceIte, ↓jbd_s, ↓jpu_e, tI0, tI1, jgd_tI, jgd_bb, tfF, ftF, jup_at, jup_oc, jup_ok, ↓jb (e_holds (m := m) hw hl), b1]
        · unfold f_M_read
          simp only [lits, negs]
          simp (disch := omega) only [lits, negs, nI_add, nn1, leT, leF, ltT, ltF, eqF, mF1, mF2, mF3, mF4, mF5, mF6, mTT, eq_self, Nat.reduceEqDiff, ↓reduceIte, ↓jbd_s, ↓jpu_e, tI0, tI1, jgd_tI, jgd_bb, tfF, ftF, jup_at, jup_oc, jup_ok, ↓jb (e_MisWriter (m := jup M 109 0 (nI 0)) hw), ↓jb b2]
      · obtain ⟨m', M', N', C', e1, e2, e3, -⟩ := sim_up r3 hw b1
        have e4 : M' 138 w = m' 73 w := by
          obtain ⟨c, -, h1, h2, -⟩ := e3.2.2.2.2.2.2.2.2.1 w hw
          rw [h1, h2]
        refine ⟨m' 73 w, m', M', N', C', ?_, ?_, e3⟩
        · unfold f_C_read
          simp only [lits, negs]
          simp (disch := omega) only [lits, negs, nI_add, nn1, leT, leF, ltT, ltF, eqF, mF1, mF2, mF3, mF4, mF5, mF6, mTT, eq_self, Nat.reduceEqDiff, ↓reduceIte, ↓jbd_s, ↓jpu_e, tI0, tI1, jgd_tI, jgd_bb, tfF, ftF, jup_at, jup_oc, jup_ok, ↓jb (e_holds (m := m) hw hl), b1, ↓jb e1, ↓ld_73]
        · unfold f_M_read
          simp only [lits, negs]
          simp (disch := omega) only [lits, negs, nI_add, nn1, leT, leF, ltT, ltF, eqF, mF1, mF2, mF3, mF4, mF5, mF6, mTT, eq_self, Nat.reduceEqDiff, ↓reduceIte, ↓jbd_s, ↓jpu_e, tI0, tI1, jgd_tI, jgd_bb, tfF, ftF, jup_at, jup_oc, jup_ok, ↓jb (e_MisWriter (m := jup M 109 0 (nI 0)) hw), ↓jb b2, ↓jb e2, ↓ld_138, e4]
