/-! a letter is written: the reference, and the copies -/
theorem lp_wr1 {w N : Nat} {K : Int32} {P : Nat → Int32} {to : Int32} {k : jMem → Option (Unit × jMem)} (hw : w < 6) (hN : N < 30) : ∀ (d n i : Nat) (m : jMem), i + d = N → d < n → m 135 w = K → (∀ l, l < N → m 128 l = P l) → m 128 N = K ||| aO (bt K) P i → ∃ m', lp_M_written_96 (nI w) to (nI N) k n (nI i) m = k m' ∧ (∀ c, c ≠ 128 → m' c = m c) ∧ m' 128 = upd (m 128) N (K ||| aO (bt K) P N) := by
  intro d
  induction d with
  | zero =>
    intro n i m h hn hK hP h1
    obtain ⟨n, rfl⟩ := ex_succ hn
    have e : i = N := by omega
    subst e
    refine ⟨m, ?_, fun _ _ => rfl, ?_⟩
    · unfold lp_M_written_96
      simp (disch := omega) only [lits, negs, nI_add, nn1, leT, leF, ltT, ltF, eqF, mF1, mF2, mF3, mF4, mF5, mF6, mTT, eq_self, Nat.reduceEqDiff, ↓reduceIte, jbd_s, jpu_e, tI0, tI1, jgd_tI, jgd_bb, tfF, ftF, jup_at, jup_oc, jup_ok]
    · funext x
      by_cases q : x = i
      · rw [q, up_at, h1]
      · rw [up_ne q]
  | succ d ih =>
    intro n i m h hn hK hP h1
    obtain ⟨n, rfl⟩ := ex_succ hn
    cases hp : bt K i
    · obtain ⟨m', e, r⟩ := ih n (i + 1) m (by omega) (by omega) hK hP (by rw [h1, aO_succ, hp, if_neg (by decide)])
      refine ⟨m', ?_, r⟩
      unfold lp_M_written_96
      simp (disch := omega) only [lits, negs, nI_add, nn1, leT, leF, ltT, ltF, eqF, mF1, mF2, mF3, mF4, mF5, mF6, mTT, eq_self, Nat.reduceEqDiff, ↓reduceIte, jbd_s, jpu_e, tI0, tI1, jgd_tI, jgd_bb, tfF, ftF, jup_at, jup_oc, jup_ok, ld_135, hK, bit1, hp]
      exact e
    · obtain ⟨m', e, r1, r2⟩ := ih n (i + 1) (jup m 128 N (m 128 N ||| m 128 i)) (by omega) (by omega) (by rw [jup_oc (by omega)]; exact hK) (fun l hl => by rw [jup_ok (by omega)]; exact hP l hl) (by rw [jup_at, h1, hP i (by omega), or_as, aO_succ, hp, if_pos rfl])
      refine ⟨m', ?_, fun c hc => by rw [r1 c hc, jup_oc hc], ?_⟩
      · unfold lp_M_written_96
        simp (disch := omega) only [lits, negs, nI_add, nn1, leT, leF, ltT, ltF, eqF, mF1, mF2, mF3, mF4, mF5, mF6, mTT, eq_self, Nat.reduceEqDiff, ↓reduceIte, jbd_s, jpu_e, tI0, tI1, jgd_tI, jgd_bb, tfF, ftF, jup_at, jup_oc, jup_ok, ld_135, hK, bit1, hp, ld_128, st_128]
        exact e
      · rw [r2, jup_row]
        funext x
        by_cases q : x = N
        · rw [q, up_at, up_at]
        · rw [up_ne q, up_ne q, up_ne q]
theorem lp_wr2 {w N : Nat} {to : Int32} {k : jMem → Option (Unit × jMem)} (hN : N < 30) : ∀ (d n i : Nat) (m : jMem), i + d = 6 → d < n → ∃ m', lp_M_written_154 (nI w) to (nI N) k n (nI i) m = k m' ∧ (∀ c, c ≠ 136 → m' c = m c) ∧ ∀ v l, v < 6 → l < 30 → m' 136 (30 * v + l) = if l = N ∧ i ≤ v then nM else m 136 (30 * v + l) := by
  intro d
  induction d with
  | zero =>
    intro n i m h hn
    obtain ⟨n, rfl⟩ := ex_succ hn
    refine ⟨m, ?_, fun _ _ => rfl, fun v l hv hl => ?_⟩
    · rw [show i = 6 by omega]
      unfold lp_M_written_154
      simp (disch := omega) only [lits, negs, nI_add, nn1, leT, leF, ltT, ltF, eqF, mF1, mF2, mF3, mF4, mF5, mF6, mTT, eq_self, Nat.reduceEqDiff, ↓reduceIte, jbd_s, jpu_e, tI0, tI1, jgd_tI, jgd_bb, tfF, ftF, jup_at, jup_oc, jup_ok]
    · rw [if_neg (by omega)]
  | succ d ih =>
    intro n i m h hn
    obtain ⟨n, rfl⟩ := ex_succ hn
    obtain ⟨m', e, r1, r2⟩ := ih n (i + 1) (jup m 136 (30 * i + N) nM) (by omega) (by omega)
    refine ⟨m', ?_, fun c hc => by rw [r1 c hc, jup_oc hc], fun v l hv hl => ?_⟩
    · unfold lp_M_written_154
      simp (disch := omega) only [lits, negs, nI_add, nn1, leT, leF, ltT, ltF, eqF, mF1, mF2, mF3, mF4, mF5, mF6, mTT, eq_self, Nat.reduceEqDiff, ↓reduceIte, jbd_s, jpu_e, tI0, tI1, jgd_tI, jgd_bb, tfF, ftF, jup_at, jup_oc, jup_ok, pk_mul, st_136]
      exact e
    · rw [r2 v l hv hl]
      by_cases q : l = N ∧ v = i
      · obtain ⟨q1, q2⟩ := q
        rw [q1, q2, if_neg (by omega), jup_at, if_pos ⟨rfl, Nat.le_refl _⟩]
      · by_cases q2 : l = N ∧ i + 1 ≤ v
        · rw [if_pos q2, if_pos ⟨q2.1, by omega⟩]
        · rw [if_neg q2, if_neg (by omega), jup_ok (by omega)]
theorem RS2_part {m M : jMem} (rs : RS2 m M) (f t : Nat) (x : Int32) : partS (M 109 50) (M 109 51) (M 109 52) f t x = partS (m 45 2) (m 45 3) (m 45 4) f t x := by
  obtain ⟨h, a, b, -, -, h1, h2, h3, h4⟩ := rs
  rw [h, h1, h2, h3, h4]
theorem RS2_day {m M : jMem} (rs : RS2 m M) (f t : Nat) {d : Nat} (hd : d ≤ 1100) : ∃ e, e ≤ 1100 ∧ partS (m 45 2) (m 45 3) (m 45 4) f t (nI d) = nI e := by
  obtain ⟨h, a, b, ha, hb, h1, h2, h3, h4⟩ := rs
  unfold partS
  rw [h1, h3]
  split
  · exact ⟨d, hd, rfl⟩
  · split
    · exact ⟨d, hd, rfl⟩
    · split
      · exact ⟨d, hd, rfl⟩
      · exact ⟨b + 1, by omega, nI_add b 1⟩
theorem RC2_push {N C : Nat} {l f t d : Nat} {m M : jMem} (rc : RC2 N C m M) (hC2 : C < 150) (hl : l < N) (hf : f < 6) (ht : t < 6) (hd : d ≤ 1100) : RC2 N (C + 1) (sndM m C (nI l) (nI f) (nI t) (nI d)) (pstM M C (nI l) (nI f) (nI t) (nI d)) := by
  obtain ⟨hC, c1, c2, ⟨r1, r2, r3, r4, r5⟩, rr⟩ := rc
  unfold pstM sndM
  refine ⟨by omega, by simp (disch := omega) only [lits, negs, nI_add, nn1, leT, leF, ltT, ltF, eqF, mF1, mF2, mF3, mF4, mF5, mF6, mTT, eq_self, Nat.reduceEqDiff, ↓reduceIte, jbd_s, jpu_e, tI0, tI1, jgd_tI, jgd_bb, tfF, ftF, jup_at, jup_oc, jup_ok], by simp (disch := omega) only [lits, negs, nI_add, nn1, leT, leF, ltT, ltF, eqF, mF1, mF2, mF3, mF4, mF5, mF6, mTT, eq_self, Nat.reduceEqDiff, ↓reduceIte, jbd_s, jpu_e, tI0, tI1, jgd_tI, jgd_bb, tfF, ftF, jup_at, jup_oc, jup_ok], ⟨by simp (disch := omega) only [lits, negs, nI_add, nn1, leT, leF, ltT, ltF, eqF, mF1, mF2, mF3, mF4, mF5, mF6, mTT, eq_self, Nat.reduceEqDiff, ↓reduceIte, jbd_s, jpu_e, tI0, tI1, jgd_tI, jgd_bb, tfF, ftF, jup_at, jup_oc, jup_ok, jup_row, r1], by simp (disch := omega) only [lits, negs, nI_add, nn1, leT, leF, ltT, ltF, eqF, mF1, mF2, mF3, mF4, mF5, mF6, mTT, eq_self, Nat.reduceEqDiff, ↓reduceIte, jbd_s, jpu_e, tI0, tI1, jgd_tI, jgd_bb, tfF, ftF, jup_at, jup_oc, jup_ok, jup_row, r2], by simp (disch := omega) only [lits, negs, nI_add, nn1, leT, leF, ltT, ltF, eqF, mF1, mF2, mF3, mF4, mF5, mF6, mTT, eq_self, Nat.reduceEqDiff, ↓reduceIte, jbd_s, jpu_e, tI0, tI1, jgd_tI, jgd_bb, tfF, ftF, jup_at, jup_oc, jup_ok, jup_row, r3], by simp (disch := omega) only [lits, negs, nI_add, nn1, leT, leF, ltT, ltF, eqF, mF1, mF2, mF3, mF4, mF5, mF6, mTT, eq_self, Nat.reduceEqDiff, ↓reduceIte, jbd_s, jpu_e, tI0, tI1, jgd_tI, jgd_bb, tfF, ftF, jup_at, jup_oc, jup_ok, jup_row, r4], by simp (disch := omega) only [lits, negs, nI_add, nn1, leT, leF, ltT, ltF, eqF, mF1, mF2, mF3, mF4, mF5, mF6, mTT, eq_self, Nat.reduceEqDiff, ↓reduceIte, jbd_s, jpu_e, tI0, tI1, jgd_tI, jgd_bb, tfF, ftF, jup_at, jup_oc, jup_ok, jup_row, r5]⟩, fun k hk => ?_⟩
  by_cases q : k = C
  · subst q
    exact ⟨⟨l, hl, by simp (disch := omega) only [lits, negs, nI_add, nn1, leT, leF, ltT, ltF, eqF, mF1, mF2, mF3, mF4, mF5, mF6, mTT, eq_self, Nat.reduceEqDiff, ↓reduceIte, jbd_s, jpu_e, tI0, tI1, jgd_tI, jgd_bb, tfF, ftF, jup_at, jup_oc, jup_ok]⟩, ⟨f, hf, by simp (disch := omega) only [lits, negs, nI_add, nn1, leT, leF, ltT, ltF, eqF, mF1, mF2, mF3, mF4, mF5, mF6, mTT, eq_self, Nat.reduceEqDiff, ↓reduceIte, jbd_s, jpu_e, tI0, tI1, jgd_tI, jgd_bb, tfF, ftF, jup_at, jup_oc, jup_ok]⟩, ⟨t, ht, by simp (disch := omega) only [lits, negs, nI_add, nn1, leT, leF, ltT, ltF, eqF, mF1, mF2, mF3, mF4, mF5, mF6, mTT, eq_self, Nat.reduceEqDiff, ↓reduceIte, jbd_s, jpu_e, tI0, tI1, jgd_tI, jgd_bb, tfF, ftF, jup_at, jup_oc, jup_ok]⟩, ⟨d, hd, by simp (disch := omega) only [lits, negs, nI_add, nn1, leT, leF, ltT, ltF, eqF, mF1, mF2, mF3, mF4, mF5, mF6, mTT, eq_self, Nat.reduceEqDiff, ↓reduceIte, jbd_s, jpu_e, tI0, tI1, jgd_tI, jgd_bb, tfF, ftF, jup_at, jup_oc, jup_ok]⟩, ⟨0, by omega, by simp (disch := omega) only [lits, negs, nI_add, nn1, leT, leF, ltT, ltF, eqF, mF1, mF2, mF3, mF4, mF5, mF6, mTT, eq_self, Nat.reduceEqDiff, ↓reduceIte, jbd_s, jpu_e, tI0, tI1, jgd_tI, jgd_bb, tfF, ftF, jup_at, jup_oc, jup_ok]⟩⟩
  · obtain ⟨g1, g2, g3, g4, g5⟩ := rr k (by omega)
    refine ⟨by simp (disch := omega) only [lits, negs, nI_add, nn1, leT, leF, ltT, ltF, eqF, mF1, mF2, mF3, mF4, mF5, mF6, mTT, eq_self, Nat.reduceEqDiff, ↓reduceIte, jbd_s, jpu_e, tI0, tI1, jgd_tI, jgd_bb, tfF, ftF, jup_at, jup_oc, jup_ok, q]; exact g1, by simp (disch := omega) only [lits, negs, nI_add, nn1, leT, leF, ltT, ltF, eqF, mF1, mF2, mF3, mF4, mF5, mF6, mTT, eq_self, Nat.reduceEqDiff, ↓reduceIte, jbd_s, jpu_e, tI0, tI1, jgd_tI, jgd_bb, tfF, ftF, jup_at, jup_oc, jup_ok, q]; exact g2, by simp (disch := omega) only [lits, negs, nI_add, nn1, leT, leF, ltT, ltF, eqF, mF1, mF2, mF3, mF4, mF5, mF6, mTT, eq_self, Nat.reduceEqDiff, ↓reduceIte, jbd_s, jpu_e, tI0, tI1, jgd_tI, jgd_bb, tfF, ftF, jup_at, jup_oc, jup_ok, q]; exact g3, by simp (disch := omega) only [lits, negs, nI_add, nn1, leT, leF, ltT, ltF, eqF, mF1, mF2, mF3, mF4, mF5, mF6, mTT, eq_self, Nat.reduceEqDiff, ↓reduceIte, jbd_s, jpu_e, tI0, tI1, jgd_tI, jgd_bb, tfF, ftF, jup_at, jup_oc, jup_ok, q]; exact g4, by simp (disch := omega) only [lits, negs, nI_add, nn1, leT, leF, ltT, ltF, eqF, mF1, mF2, mF3, mF4, mF5, mF6, mTT, eq_self, Nat.reduceEqDiff, ↓reduceIte, jbd_s, jpu_e, tI0, tI1, jgd_tI, jgd_bb, tfF, ftF, jup_at, jup_oc, jup_ok, q]; exact g5⟩
def frC (m m' : jMem) : Prop := ∀ c k, (c < 60 ∨ 64 < c) → ¬ (c = 45 ∧ k = 10) → m' c k = m c k
def frM (M M' : jMem) : Prop := ∀ c k, (c < 130 ∨ 134 < c) → ¬ (c = 109 ∧ k = 44) → M' c k = M c k
theorem snd_frC {m : jMem} {C : Nat} {l f t d : Int32} : frC m (sndM m C l f t d) := fun c k h1 h2 => by
  unfold sndM
  rw [show ∀ (M : jMem) (x : Int32), jup M 45 10 x c k = M c k from fun M x => if_neg h2]
  simp (disch := omega) only [lits, negs, nI_add, nn1, leT, leF, ltT, ltF, eqF, mF1, mF2, mF3, mF4, mF5, mF6, mTT, eq_self, Nat.reduceEqDiff, ↓reduceIte, jbd_s, jpu_e, tI0, tI1, jgd_tI, jgd_bb, tfF, ftF, jup_at, jup_oc, jup_ok]
theorem pst_frM {M : jMem} {C : Nat} {l f t d : Int32} : frM M (pstM M C l f t d) := fun c k h1 h2 => by
  unfold pstM
  rw [show ∀ (M : jMem) (x : Int32), jup M 109 44 x c k = M c k from fun M x => if_neg h2]
  simp (disch := omega) only [lits, negs, nI_add, nn1, leT, leF, ltT, ltF, eqF, mF1, mF2, mF3, mF4, mF5, mF6, mTT, eq_self, Nat.reduceEqDiff, ↓reduceIte, jbd_s, jpu_e, tI0, tI1, jgd_tI, jgd_bb, tfF, ftF, jup_at, jup_oc, jup_ok]
theorem frC_tr {a b c : jMem} (h1 : frC a b) (h2 : frC b c) : frC a c := fun x k e1 e2 => (h2 x k e1 e2).trans (h1 x k e1 e2)
theorem frM_tr {a b c : jMem} (h1 : frM a b) (h2 : frM b c) : frM a c := fun x k e1 e2 => (h2 x k e1 e2).trans (h1 x k e1 e2)
theorem frC_row {m m' : jMem} (h : frC m m') {c : Nat} (hc : (c < 60 ∨ 64 < c) ∧ c ≠ 45) : m' c = m c := by
  funext k
  exact h c k hc.1 (fun q => hc.2 q.1)
theorem frM_row {m m' : jMem} (h : frM m m') {c : Nat} (hc : (c < 130 ∨ 134 < c) ∧ c ≠ 109) : m' c = m c := by
  funext k
  exact h c k hc.1 (fun q => hc.2 q.1)
theorem RS2_fr {m m' M M' : jMem} (h1 : frC m m') (h2 : frM M M') (r : RS2 m M) : RS2 m' M' := by
  unfold RS2
  rw [h1 45 2 (by omega) (by omega), h1 45 3 (by omega) (by omega), h1 45 4 (by omega) (by omega), h2 109 50 (by omega) (by omega), h2 109 51 (by omega) (by omega), h2 109 52 (by omega) (by omega)]
  exact r
theorem RW2_fr {m m' M M' : jMem} (h1 : frC m m') (h2 : frM M M') (r : RW2 m M) : RW2 m' M' := by
  obtain ⟨W, r1, r2⟩ := r
  refine ⟨W, fun a ha b hb => ?_, r2⟩
  rw [frM_row h2 (c := 120) (by omega), frC_row h1 (c := 47 + a) (by omega), frC_row h1 (c := 54 + a) (by omega)]
  exact r1 a ha b hb
/-- the copies of a letter, side by side -/
theorem sim_posts {N l w d : Nat} {to : Int32} {kC : jMem → Option (Int32 × jMem)} {kM : jMem → Option (Unit × jMem)} (hl : l < N) (hw : w < 6) (hd : d ≤ 999) : ∀ (e i C : Nat) (m M : jMem) (n n' : Nat), i + e = 6 → e < n → e < n' → RC2 N C m M → RS2 m M → RW2 m M → m 1 6 = nI d → M 109 31 = nI d → C + fb_ct (bt to) 6 ≤ 150 + fb_ct (bt to) i → ∃ m' M' C', lp_C_enter_60 (nI w) to (nI l) kC n (nI i) m = kC m' ∧ lp_M_written_213 (nI w) to (nI l) kM n' (nI i) M = kM M' ∧ RC2 N C' m' M' ∧ frC m m' ∧ frM M M' := by
  intro e
  induction e with
  | zero =>
    intro i C m M n n' h hn hn' rc rs rw_ h1 h2 hr
    obtain ⟨n, rfl⟩ := ex_succ hn
    obtain ⟨n', rfl⟩ := ex_succ hn'
    have ei : i = 6 := by omega
    subst ei
    refine ⟨m, M, C, ?_, ?_, rc, fun _ _ _ _ => rfl, fun _ _ _ _ => rfl⟩
    · unfold lp_C_enter_60
      simp (disch := omega) only [lits, negs, nI_add, nn1, leT, leF, ltT, ltF, eqF, mF1, mF2, mF3, mF4, mF5, mF6, mTT, eq_self, Nat.reduceEqDiff, ↓reduceIte, jbd_s, jpu_e, tI0, tI1, jgd_tI, jgd_bb, tfF, ftF, jup_at, jup_oc, jup_ok]
    · unfold lp_M_written_213
      simp (disch := omega) only [lits, negs, nI_add, nn1, leT, leF, ltT, ltF, eqF, mF1, mF2, mF3, mF4, mF5, mF6, mTT, eq_self, Nat.reduceEqDiff, ↓reduceIte, jbd_s, jpu_e, tI0, tI1, jgd_tI, jgd_bb, tfF, ftF, jup_at, jup_oc, jup_ok]
  | succ e ih =>
    intro i C m M n n' h hn hn' rc rs rw_ h1 h2 hr
    obtain ⟨n, rfl⟩ := ex_succ hn
    obtain ⟨n', rfl⟩ := ex_succ hn'
    have hi : i < 6 := by omega
    cases hb : bt to i
    · obtain ⟨m', M', C', e1, e2, g⟩ := ih (i + 1) C m M n n' (by omega) (by omega) (by omega) rc rs rw_ h1 h2 (by rw [fb_ct_succ (bt to) i, hb, if_neg (by decide)]; exact hr)
      refine ⟨m', M', C', ?_, ?_, g⟩
      · unfold lp_C_enter_60
        simp (disch := omega) only [lits, negs, nI_add, nn1, leT, leF, ltT, ltF, eqF, mF1, mF2, mF3, mF4, mF5, mF6, mTT, eq_self, Nat.reduceEqDiff, ↓reduceIte, jbd_s, jpu_e, tI0, tI1, jgd_tI, jgd_bb, tfF, ftF, jup_at, jup_oc, jup_ok, e_isIn, hb]
        exact e1
      · unfold lp_M_written_213
        simp (disch := omega) only [lits, negs, nI_add, nn1, leT, leF, ltT, ltF, eqF, mF1, mF2, mF3, mF4, mF5, mF6, mTT, eq_self, Nat.reduceEqDiff, ↓reduceIte, jbd_s, jpu_e, tI0, tI1, jgd_tI, jgd_bb, tfF, ftF, jup_at, jup_oc, jup_ok, bit1, hb]
        exact e2
    · have hct : fb_ct (bt to) (i + 1) ≤ fb_ct (bt to) 6 := fb_ct_mono _ (by omega)
      rw [fb_ct_succ (bt to) i, hb, if_pos rfl] at hct
      obtain ⟨W, hW, hWd⟩ := rw_
      obtain ⟨w1, w2, w3, -⟩ := hW w hw i hi
      obtain ⟨dd, hdd, edd⟩ := RS2_day rs w i (d := d + W w i) (by omega)
      have es := e_send (l := nI l) (td := nI d) rc.2.1 (by omega : C < 150) hw hi w3
      rw [nI_add, edd] at es
      have ep := e_post (l := nI l) (td := nI d) rc.2.2.1 (by omega : C < 150) hw hi w2 h2
      rw [nI_add, RS2_part rs, edd] at ep
      have f1 : frC m (sndM m C (nI l) (nI w) (nI i) (nI dd)) := snd_frC
      have f2 : frM M (pstM M C (nI l) (nI w) (nI i) (nI dd)) := pst_frM
      obtain ⟨m', M', C', e1, e2, g1, g2, g3⟩ := ih (i + 1) (C + 1) _ _ n n' (by omega) (by omega) (by omega) (RC2_push rc (by omega) hl hw hi hdd) (RS2_fr f1 f2 rs) (RW2_fr f1 f2 ⟨W, hW, hWd⟩) (by rw [f1 1 6 (by omega) (by omega)]; exact h1) (by rw [f2 109 31 (by omega) (by omega)]; exact h2) (by rw [fb_ct_succ (bt to) i, hb, if_pos rfl]; omega)
      refine ⟨m', M', C', ?_, ?_, g1, frC_tr f1 g2, frM_tr f2 g3⟩
      · unfold lp_C_enter_60
        simp (disch := omega) only [lits, negs, nI_add, nn1, leT, leF, ltT, ltF, eqF, mF1, mF2, mF3, mF4, mF5, mF6, mTT, eq_self, Nat.reduceEqDiff, ↓reduceIte, jbd_s, jpu_e, tI0, tI1, jgd_tI, jgd_bb, tfF, ftF, jup_at, jup_oc, jup_ok, e_isIn, hb, h1, es]
        exact e1
      · unfold lp_M_written_213
        simp (disch := omega) only [lits, negs, nI_add, nn1, leT, leF, ltT, ltF, eqF, mF1, mF2, mF3, mF4, mF5, mF6, mTT, eq_self, Nat.reduceEqDiff, ↓reduceIte, jbd_s, jpu_e, tI0, tI1, jgd_tI, jgd_bb, tfF, ftF, jup_at, jup_oc, jup_ok, bit1, hb, ep]
        exact e2
/-- all of it, over two memories -/
def Rel2 (N C : Nat) (m M : jMem) : Prop := RL2 N m M ∧ RB2 N m M ∧ RT2 m M ∧ RD2 m M ∧ RW2 m M ∧ RS2 m M ∧ RC2 N C m M ∧ RK2 N m M ∧ RH2 N m M ∧ RP2 N m M ∧ RX2 m M
theorem Rel.two {N C : Nat} {m : jMem} (r : Rel N C m) : Rel2 N C m m := r
theorem Rel2.one {N C : Nat} {m : jMem} (r : Rel2 N C m m) : Rel N C m := r
def RXC (m m' : jMem) : Prop := m' 1 2 = m 1 2 ∧ m' 1 3 = m 1 3 ∧ m' 21 4 = m 21 4 ∧ m' 21 5 = m 21 5 ∧ ∀ c, 3 ≤ c → c ≤ 19 → c ≠ 11 → m' c = m c
def RXM (M M' : jMem) : Prop := M' 109 23 = M 109 23 ∧ M' 109 24 = M 109 24 ∧ M' 109 6 = M 109 6 ∧ M' 109 11 = M 109 11 ∧ ∀ c, 111 ≤ c → c ≤ 116 → M' c = M c
theorem RX2_fr {m m' M M' : jMem} (h : RXC m m') (g : RXM M M') (r : RX2 m M) : RX2 m' M' := by
  obtain ⟨h0, h1, h3, h5, h8⟩ := h
  obtain ⟨g2, g4, g6, g7, g9⟩ := g
  obtain ⟨hb, hd, r0, r1, r2, r3, r4, r5, r6, H, r7, r8, r9, r10⟩ := r
  have hr : ∀ k, k ≤ 7 → m' (hb + k) = m (hb + k) := fun k hk => h8 _ (by omega) (by omega) (by omega)
  refine ⟨hb, hd, r0, h0.trans r1, h1.trans r2, by rw [g2, h3]; exact r3, by rw [g4, h5]; exact r4, by rw [g6, show m' hb = m hb from hr 0 (by omega)]; exact r5, fun w hw => ?_, H, r7, by rw [show m' hb = m hb from hr 0 (by omega)]; exact r8, g7.trans r9, fun h hh => ?_⟩
  · rw [g9 116 (by omega) (by omega), show m' hb = m hb from hr 0 (by omega), hr 1 (by omega)]
    exact r6 w hw
  · have := r10 h hh
    unfold RXh2 at this ⊢
    rw [hr 3 (by omega), hr 2 (by omega), hr 4 (by omega), hr 5 (by omega), hr 6 (by omega), hr 7 (by omega), g9 114 (by omega) (by omega), g9 113 (by omega) (by omega), g9 115 (by omega) (by omega), g9 111 (by omega) (by omega), g9 112 (by omega) (by omega)]
    exact this
/-- what the reference's new letter looks like, ahead of its copies -/
def wrA (M : jMem) (N w d : Nat) (kd to one oth K : Int32) : jMem := jup (jup (jup (jup (jup (jup (jup (jup (jup M 121 N (nI w)) 122 N (nI d)) 123 N kd) 124 N to) 125 N one) 126 N oth) 129 N (nI 0)) 127 N K) 128 N K
theorem e_written1 {N w d : Nat} {kd to one oth K : Int32} {M : jMem} (h30 : N < 30) (hw : w < 6) (hMN : M 109 33 = nI N) (t2 : M 109 31 = nI d) (hKM : M 135 w = K) : f_M_written (nI w) to kd one oth M = lp_M_written_96 (nI w) to (nI N) (fun m16 => jpu m16 109 33 ((m16 109 33) + nI 1) fun m17 => lp_M_written_154 (nI w) to (nI N) (fun m19 => jld 1 m19 135 (nI w) fun x20 => jst 1 m19 135 (nI w) (x20 ||| (nI 1 <<< (nI N &&& nI 31))) fun m21 => jst 1 m21 136 ((nI 30 * nI w) + nI N) (m21 109 31) fun m22 => lp_M_written_213 (nI w) to (nI N) (fun m25 => some ((), m25)) 5000 (nI 0) m22) 5000 (nI 0) m17) 5000 (nI 0) (wrA M N w d kd to one oth K) := by
  have hz : jbz (nI 0) = nI 0 := by decide
  unfold f_M_written
  simp only [lits, negs]
  rw [hMN, st_121 h30, st_122 h30, st_123 h30, st_124 h30, st_125 h30, st_126 h30, st_129 h30, hz, ld_135 hw, st_127 h30, ld_135 hw, st_128 h30]
  have x1 : jup M 121 N (nI w) 109 31 = nI d := by simp (disch := omega) only [lits, negs, nI_add, nn1, leT, leF, ltT, ltF, eqF, mF1, mF2, mF3, mF4, mF5, mF6, mTT, eq_self, Nat.reduceEqDiff, ↓reduceIte, jbd_s, jpu_e, tI0, tI1, jgd_tI, jgd_bb, tfF, ftF, jup_at, jup_oc, jup_ok, t2]
  have x2 : jup (jup (jup (jup (jup (jup (jup M 121 N (nI w)) 122 N (nI d)) 123 N kd) 124 N to) 125 N one) 126 N oth) 129 N (nI 0) 135 w = K := by simp (disch := omega) only [lits, negs, nI_add, nn1, leT, leF, ltT, ltF, eqF, mF1, mF2, mF3, mF4, mF5, mF6, mTT, eq_self, Nat.reduceEqDiff, ↓reduceIte, jbd_s, jpu_e, tI0, tI1, jgd_tI, jgd_bb, tfF, ftF, jup_at, jup_oc, jup_ok, hKM]
  have x3 : jup (jup (jup (jup (jup (jup (jup (jup M 121 N (nI w)) 122 N (nI d)) 123 N kd) 124 N to) 125 N one) 126 N oth) 129 N (nI 0)) 127 N K 135 w = K := by simp (disch := omega) only [lits, negs, nI_add, nn1, leT, leF, ltT, ltF, eqF, mF1, mF2, mF3, mF4, mF5, mF6, mTT, eq_self, Nat.reduceEqDiff, ↓reduceIte, jbd_s, jpu_e, tI0, tI1, jgd_tI, jgd_bb, tfF, ftF, jup_at, jup_oc, jup_ok, hKM]
  rw [x1, x2, x3]
  unfold wrA
  rfl
theorem e_written2 {N w d : Nat} {kd to one oth K : Int32} {P : Nat → Int32} {M : jMem} (h30 : N < 30) (hw : w < 6) (hMN : M 109 33 = nI N) (t2 : M 109 31 = nI d) (hKM : M 135 w = K) (q8 : M 128 = P) : ∃ Md, f_M_written (nI w) to kd one oth M = lp_M_written_213 (nI w) to (nI N) (fun m25 => some ((), m25)) 5000 (nI 0) Md ∧ (∀ c k, c ≠ 135 → c ≠ 136 → c ≠ 128 → ¬ (c = 109 ∧ k = 33) → Md c k = wrA M N w d kd to one oth K c k) ∧ Md 109 33 = nI (N + 1) ∧ Md 128 = upd P N (K ||| aO (bt K) P N) ∧ Md 135 = upd (M 135) w (M 135 w ||| sb N) ∧ (∀ v l, v < 6 → l < 30 → Md 136 (30 * v + l) = if l = N then (if v = w then nI d else nM) else M 136 (30 * v + l)) := by
  have e1 := e_written1 (kd := kd) (to := to) (one := one) (oth := oth) h30 hw hMN t2 hKM
  obtain ⟨Mb, eb, gb1, gb2⟩ := lp_wr1 (w := w) (N := N) (K := K) (P := P) (to := to) (k := fun m16 => jpu m16 109 33 ((m16 109 33) + nI 1) fun m17 => lp_M_written_154 (nI w) to (nI N) (fun m19 => jld 1 m19 135 (nI w) fun x20 => jst 1 m19 135 (nI w) (x20 ||| (nI 1 <<< (nI N &&& nI 31))) fun m21 => jst 1 m21 136 ((nI 30 * nI w) + nI N) (m21 109 31) fun m22 => lp_M_written_213 (nI w) to (nI N) (fun m25 => some ((), m25)) 5000 (nI 0) m22) 5000 (nI 0) m17) hw h30 N 5000 0 (wrA M N w d kd to one oth K) (by omega) (by omega) (by unfold wrA; simp (disch := omega) only [lits, negs, nI_add, nn1, leT, leF, ltT, ltF, eqF, mF1, mF2, mF3, mF4, mF5, mF6, mTT, eq_self, Nat.reduceEqDiff, ↓reduceIte, jbd_s, jpu_e, tI0, tI1, jgd_tI, jgd_bb, tfF, ftF, jup_at, jup_oc, jup_ok, hKM]) (fun l hl => by unfold wrA; simp (disch := omega) only [lits, negs, nI_add, nn1, leT, leF, ltT, ltF, eqF, mF1, mF2, mF3, mF4, mF5, mF6, mTT, eq_self, Nat.reduceEqDiff, ↓reduceIte, jbd_s, jpu_e, tI0, tI1, jgd_tI, jgd_bb, tfF, ftF, jup_at, jup_oc, jup_ok, q8]) (by unfold wrA; simp (disch := omega) only [lits, negs, nI_add, nn1, leT, leF, ltT, ltF, eqF, mF1, mF2, mF3, mF4, mF5, mF6, mTT, eq_self, Nat.reduceEqDiff, ↓reduceIte, jbd_s, jpu_e, tI0, tI1, jgd_tI, jgd_bb, tfF, ftF, jup_at, jup_oc, jup_ok]; exact (or_n0 _).symm)
  obtain ⟨Mc, ec, gc1, gc2⟩ := lp_wr2 (w := w) (N := N) (to := to) (k := fun m19 => jld 1 m19 135 (nI w) fun x20 => jst 1 m19 135 (nI w) (x20 ||| (nI 1 <<< (nI N &&& nI 31))) fun m21 => jst 1 m21 136 ((nI 30 * nI w) + nI N) (m21 109 31) fun m22 => lp_M_written_213 (nI w) to (nI N) (fun m25 => some ((), m25)) 5000 (nI 0) m22) h30 6 5000 0 (jup Mb 109 33 (nI (N + 1))) (by omega) (by omega)
  have eMa : wrA M N w d kd to one oth K 109 33 = nI N := by unfold wrA; simp (disch := omega) only [lits, negs, nI_add, nn1, leT, leF, ltT, ltF, eqF, mF1, mF2, mF3, mF4, mF5, mF6, mTT, eq_self, Nat.reduceEqDiff, ↓reduceIte, jbd_s, jpu_e, tI0, tI1, jgd_tI, jgd_bb, tfF, ftF, jup_at, jup_oc, jup_ok, hMN]
  have e31 : Mc 109 31 = nI d := by
    rw [gc1 109 (by omega), jup_ok (by omega), gb1 109 (by omega)]
    unfold wrA
    simp (disch := omega) only [lits, negs, nI_add, nn1, leT, leF, ltT, ltF, eqF, mF1, mF2, mF3, mF4, mF5, mF6, mTT, eq_self, Nat.reduceEqDiff, ↓reduceIte, jbd_s, jpu_e, tI0, tI1, jgd_tI, jgd_bb, tfF, ftF, jup_at, jup_oc, jup_ok, t2]
  have e135 : Mc 135 = M 135 := by
    rw [gc1 135 (by omega), jup_oc (by omega), gb1 135 (by omega)]
    unfold wrA
    simp (disch := omega) only [lits, negs, nI_add, nn1, leT, leF, ltT, ltF, eqF, mF1, mF2, mF3, mF4, mF5, mF6, mTT, eq_self, Nat.reduceEqDiff, ↓reduceIte, jbd_s, jpu_e, tI0, tI1, jgd_tI, jgd_bb, tfF, ftF, jup_at, jup_oc, jup_ok]
  refine ⟨jup (jup Mc 135 w (M 135 w ||| sb N)) 136 (30 * w + N) (nI d), ?_, fun c k c1 c2 c3 c4 => ?_, ?_, ?_, ?_, fun v l hv hl => ?_⟩
  · rw [e1, eb, jpu_e, show Mb 109 33 + nI 1 = nI (N + 1) by rw [gb1 109 (by omega), eMa, nI_add], ec, ld_135 hw, st_135 hw, pk_mul, nI_add, st_136 (by omega), e135, sb_e, jup_oc (by omega), e31]
  · rw [jup_oc c2, jup_oc c1, gc1 c c2, show jup Mb 109 33 (nI (N + 1)) c k = Mb c k from if_neg c4, gb1 c c3]
  · rw [jup_oc (by omega), jup_oc (by omega), gc1 109 (by omega), jup_at]
  · rw [jup_oc (by omega), jup_oc (by omega), gc1 128 (by omega), jup_oc (by omega), gb2]
    funext x
    by_cases q : x = N
    · rw [q, up_at, up_at]
    · rw [up_ne q, up_ne q]
      unfold wrA
      simp (disch := omega) only [lits, negs, nI_add, nn1, leT, leF, ltT, ltF, eqF, mF1, mF2, mF3, mF4, mF5, mF6, mTT, eq_self, Nat.reduceEqDiff, ↓reduceIte, jbd_s, jpu_e, tI0, tI1, jgd_tI, jgd_bb, tfF, ftF, jup_at, jup_oc, jup_ok, q8]
  · rw [jup_oc (by omega), jup_row, e135]
  · by_cases q : l = N
    · rw [if_pos q, q]
      by_cases q2 : v = w
      · rw [if_pos q2, q2, jup_at]
      · rw [if_neg q2, jup_ok (by omega), jup_oc (by omega), gc2 v N hv h30, if_pos ⟨rfl, by omega⟩]
    · rw [if_neg q, jup_ok (by omega), jup_oc (by omega), gc2 v l hv hl, if_neg (fun z => q z.1), jup_oc (by omega), gb1 136 (by omega)]
      unfold wrA
      simp (disch := omega) only [lits, negs, nI_add, nn1, leT, leF, ltT, ltF, eqF, mF1, mF2, mF3, mF4, mF5, mF6, mTT, eq_self, Nat.reduceEqDiff, ↓reduceIte, jbd_s, jpu_e, tI0, tI1, jgd_tI, jgd_bb, tfF, ftF, jup_at, jup_oc, jup_ok]
/-- a letter is written, with its copies -/
theorem sim_enter {N C w : Nat} {kd to one oth : Int32} {m M : jMem} (r : Rel2 N C m M) (hm : mayL m N w kd to one oth (m 42 w ||| m 75 w)) (hroom : C + pcnt to ≤ 150) : ∃ m' M' C', f_C_enter (nI w) to kd one oth m = some (nI N, m') ∧ f_M_written (nI w) to kd one oth M = some ((), M') ∧ Rel2 (N + 1) C' m' M' ∧ (∀ c k, (c < 29 ∨ 43 < c) → (c < 60 ∨ 64 < c) → ¬ (c = 45 ∧ k = 10) → m' c k = m c k) ∧ (∀ c k, (c < 121 ∨ 136 < c) → ¬ (c = 109 ∧ k = 33) → ¬ (c = 109 ∧ k = 44) → M' c k = M c k) := by
  obtain ⟨rl, rb, rt, rd, rw_, rs, rc, rk, rh, rp, rx⟩ := r
  have hm' := hm
  obtain ⟨h30, hw, -, hto, hto6, -⟩ := hm'
  have hN := rl.2.1
  have hMN := rl.2.2.1
  obtain ⟨q1, q2, q3, q4, q5, q6, q7, q8⟩ := rl.2.2.2.1
  obtain ⟨d, hd, t1, t2⟩ := rd
  have hC := rc.1
  have hpc : pcnt to = fb_ct (bt to) 6 := ct_top (by omega) (fun j h1 h2 => by
    cases z : bt to j
    · rfl
    · have := hto6 j z; omega)
  have hKM : M 135 w = m 42 w ||| m 75 w := (rk.1 w hw).1
  -- the class
  have ead := e_add (N := N) (w := w) (d := d) (kd := kd) (to := to) (one := one) (oth := oth) (K := m 42 w ||| m 75 w) hN h30 hw (fun l hl => by
    have := RL2_sum rl l hl
    exact ⟨this.1, by have := rl.1; omega⟩)
  have fad := adM_facts (m := m) (N := N) (w := w) (d := d) (kd := kd) (to := to) (one := one) (oth := oth) (K := m 42 w ||| m 75 w)
  have foth := adM_oth (m := m) (N := N) (w := w) (d := d) (kd := kd) (to := to) (one := one) (oth := oth) (K := m 42 w ||| m 75 w)
  generalize hm1 : adM m N w d kd to one oth (m 42 w ||| m 75 w) = m1 at ead fad foth
  -- the reference, up to its copies
  obtain ⟨Md, hwr, hMd, e33, g128, g135, g136⟩ := e_written2 (N := N) (w := w) (d := d) (kd := kd) (to := to) (one := one) (oth := oth) (P := m 37) h30 hw hMN t2 hKM q8
  have hMo : ∀ c k, (c < 121 ∨ 136 < c) → ¬ (c = 109 ∧ k = 33) → Md c k = M c k := fun c k c1 c2 => by
    rw [hMd c k (by omega) (by omega) (by omega) c2]
    unfold wrA
    simp (disch := omega) only [lits, negs, nI_add, nn1, leT, leF, ltT, ltF, eqF, mF1, mF2, mF3, mF4, mF5, mF6, mTT, eq_self, Nat.reduceEqDiff, ↓reduceIte, jbd_s, jpu_e, tI0, tI1, jgd_tI, jgd_bb, tfF, ftF, jup_at, jup_oc, jup_ok]
  have hMo2 : ∀ c, 130 ≤ c → c ≤ 134 → Md c = M c := fun c c1 c2 => by
    funext k
    rw [hMd c k (by omega) (by omega) (by omega) (by omega)]
    unfold wrA
    simp (disch := omega) only [lits, negs, nI_add, nn1, leT, leF, ltT, ltF, eqF, mF1, mF2, mF3, mF4, mF5, mF6, mTT, eq_self, Nat.reduceEqDiff, ↓reduceIte, jbd_s, jpu_e, tI0, tI1, jgd_tI, jgd_bb, tfF, ftF, jup_at, jup_oc, jup_ok]
  -- the copies
  obtain ⟨m2, M2, C2, es, ep, rc2, f1, f2⟩ := sim_posts (N := N + 1) (l := N) (w := w) (d := d) (to := to) (kC := fun m11 => some (nI N, m11)) (kM := fun m25 => some ((), m25)) (by omega) hw hd 6 0 C m1 Md 5000 5000 (by omega) (by omega) (by omega) (by
    obtain ⟨c1, c2, c3, ⟨c4, c5, c6, c7, c8⟩, c9⟩ := rc
    have hm60 : ∀ c, 60 ≤ c → c ≤ 64 → m1 c = m c := fun c a b => by funext k; exact foth c k (by omega)
    refine ⟨c1, by rw [foth 45 10 (by omega)]; exact c2, by rw [hMo 109 44 (by omega) (by omega)]; exact c3, ⟨by rw [hMo2 130 (by omega) (by omega), hm60 60 (by omega) (by omega)]; exact c4, by rw [hMo2 131 (by omega) (by omega), hm60 61 (by omega) (by omega)]; exact c5, by rw [hMo2 132 (by omega) (by omega), hm60 62 (by omega) (by omega)]; exact c6, by rw [hMo2 133 (by omega) (by omega), hm60 63 (by omega) (by omega)]; exact c7, by rw [hMo2 134 (by omega) (by omega), hm60 64 (by omega) (by omega)]; exact c8⟩, fun c hc => ?_⟩
    rw [hm60 60 (by omega) (by omega), hm60 61 (by omega) (by omega), hm60 62 (by omega) (by omega), hm60 63 (by omega) (by omega), hm60 64 (by omega) (by omega)]
    obtain ⟨⟨l, hl, el⟩, g⟩ := c9 c hc
    exact ⟨⟨l, by omega, el⟩, g⟩) (by
    unfold RS2
    rw [foth 45 2 (by omega), foth 45 3 (by omega), foth 45 4 (by omega), hMo 109 50 (by omega) (by omega), hMo 109 51 (by omega) (by omega), hMo 109 52 (by omega) (by omega)]
    exact rs) (by
    obtain ⟨W, r1, r2⟩ := rw_
    refine ⟨W, fun a ha b hb => ?_, r2⟩
    rw [hMo 120 _ (by omega) (by omega), foth (47 + a) b (by omega), foth (54 + a) b (by omega)]
    exact r1 a ha b hb) (by rw [foth 1 6 (by omega)]; exact t1) (by rw [hMo 109 31 (by omega) (by omega)]; exact t2) (by
    rw [show fb_ct (bt to) 0 = 0 from rfl]
    omega)
  have hcl : ∀ c k, (c < 29 ∨ 43 < c) → (c < 60 ∨ 64 < c) → ¬ (c = 45 ∧ k = 10) → m2 c k = m c k := fun c k c1 c2 c3 => by
    rw [f1 c k c2 c3, foth c k c1]
  have hcr : ∀ c, (c < 29 ∨ 43 < c) → (c < 60 ∨ 64 < c) → c ≠ 45 → m2 c = m c := fun c c1 c2 c3 => by
    funext k; exact hcl c k c1 c2 (fun q => c3 q.1)
  have hml : ∀ c k, (c < 121 ∨ 136 < c) → ¬ (c = 109 ∧ k = 33) → ¬ (c = 109 ∧ k = 44) → M2 c k = M c k := fun c k c1 c2 c3 => by
    rw [f2 c k (by omega) c3, hMo c k c1 c2]
  have hmr : ∀ c, (c < 121 ∨ 136 < c) → c ≠ 109 → M2 c = M c := fun c c1 c2 => by
    funext k; exact hml c k c1 (fun q => c2 q.1) (fun q => c2 q.1)
  have fad2 : adFacts m m2 N w d kd to one oth (m 42 w ||| m 75 w) := by
    have hq : ∀ c, 29 ≤ c → c ≤ 43 → m2 c = m1 c := fun c c1 c2 => frC_row f1 (by omega)
    unfold adFacts
    rw [hq 30 (by omega) (by omega), hq 31 (by omega) (by omega), hq 32 (by omega) (by omega), hq 33 (by omega) (by omega), hq 34 (by omega) (by omega), hq 35 (by omega) (by omega), hq 36 (by omega) (by omega), hq 37 (by omega) (by omega), hq 38 (by omega) (by omega), hq 39 (by omega) (by omega), hq 40 (by omega) (by omega), hq 41 (by omega) (by omega), hq 42 (by omega) (by omega), hq 43 (by omega) (by omega), hq 29 (by omega) (by omega)]
    exact fad
  obtain ⟨a1, a2, a3, a4, a5, a6, a7, a8, a9, a10, a11, a12, a13, a14, a15, a16⟩ := fad2
  have hM2 : ∀ c, (c < 130 ∨ 134 < c) → c ≠ 109 → M2 c = Md c := fun c c1 c2 => frM_row f2 ⟨c1, c2⟩
  have hrowM : ∀ c v, 121 ≤ c → c ≤ 129 → c ≠ 128 → wrA M N w d kd to one oth (m 42 w ||| m 75 w) c = upd (M c) N v → M2 c = upd (M c) N v := fun c v c1 c2 c3 h => by
    rw [hM2 c (by omega) (by omega)]
    funext k
    rw [hMd c k (by omega) (by omega) c3 (by omega), h]
  have b121 := hrowM 121 (nI w) (by omega) (by omega) (by omega) (by unfold wrA; simp (disch := omega) only [lits, negs, nI_add, nn1, leT, leF, ltT, ltF, eqF, mF1, mF2, mF3, mF4, mF5, mF6, mTT, eq_self, Nat.reduceEqDiff, ↓reduceIte, jbd_s, jpu_e, tI0, tI1, jgd_tI, jgd_bb, tfF, ftF, jup_at, jup_oc, jup_ok, jup_row])
  have b122 := hrowM 122 (nI d) (by omega) (by omega) (by omega) (by unfold wrA; simp (disch := omega) only [lits, negs, nI_add, nn1, leT, leF, ltT, ltF, eqF, mF1, mF2, mF3, mF4, mF5, mF6, mTT, eq_self, Nat.reduceEqDiff, ↓reduceIte, jbd_s, jpu_e, tI0, tI1, jgd_tI, jgd_bb, tfF, ftF, jup_at, jup_oc, jup_ok, jup_row])
  have b123 := hrowM 123 kd (by omega) (by omega) (by omega) (by unfold wrA; simp (disch := omega) only [lits, negs, nI_add, nn1, leT, leF, ltT, ltF, eqF, mF1, mF2, mF3, mF4, mF5, mF6, mTT, eq_self, Nat.reduceEqDiff, ↓reduceIte, jbd_s, jpu_e, tI0, tI1, jgd_tI, jgd_bb, tfF, ftF, jup_at, jup_oc, jup_ok, jup_row])
  have b124 := hrowM 124 to (by omega) (by omega) (by omega) (by unfold wrA; simp (disch := omega) only [lits, negs, nI_add, nn1, leT, leF, ltT, ltF, eqF, mF1, mF2, mF3, mF4, mF5, mF6, mTT, eq_self, Nat.reduceEqDiff, ↓reduceIte, jbd_s, jpu_e, tI0, tI1, jgd_tI, jgd_bb, tfF, ftF, jup_at, jup_oc, jup_ok, jup_row])
  have b125 := hrowM 125 one (by omega) (by omega) (by omega) (by unfold wrA; simp (disch := omega) only [lits, negs, nI_add, nn1, leT, leF, ltT, ltF, eqF, mF1, mF2, mF3, mF4, mF5, mF6, mTT, eq_self, Nat.reduceEqDiff, ↓reduceIte, jbd_s, jpu_e, tI0, tI1, jgd_tI, jgd_bb, tfF, ftF, jup_at, jup_oc, jup_ok, jup_row])
  have b126 := hrowM 126 oth (by omega) (by omega) (by omega) (by unfold wrA; simp (disch := omega) only [lits, negs, nI_add, nn1, leT, leF, ltT, ltF, eqF, mF1, mF2, mF3, mF4, mF5, mF6, mTT, eq_self, Nat.reduceEqDiff, ↓reduceIte, jbd_s, jpu_e, tI0, tI1, jgd_tI, jgd_bb, tfF, ftF, jup_at, jup_oc, jup_ok, jup_row])
  have b127 := hrowM 127 (m 42 w ||| m 75 w) (by omega) (by omega) (by omega) (by unfold wrA; simp (disch := omega) only [lits, negs, nI_add, nn1, leT, leF, ltT, ltF, eqF, mF1, mF2, mF3, mF4, mF5, mF6, mTT, eq_self, Nat.reduceEqDiff, ↓reduceIte, jbd_s, jpu_e, tI0, tI1, jgd_tI, jgd_bb, tfF, ftF, jup_at, jup_oc, jup_ok, jup_row])
  have b129 := hrowM 129 (nI 0) (by omega) (by omega) (by omega) (by unfold wrA; simp (disch := omega) only [lits, negs, nI_add, nn1, leT, leF, ltT, ltF, eqF, mF1, mF2, mF3, mF4, mF5, mF6, mTT, eq_self, Nat.reduceEqDiff, ↓reduceIte, jbd_s, jpu_e, tI0, tI1, jgd_tI, jgd_bb, tfF, ftF, jup_at, jup_oc, jup_ok, jup_row])
  have b128 : M2 128 = upd (m 37) N (nwP m N (m 42 w ||| m 75 w)) := by
    rw [hM2 128 (by omega) (by omega)]
    exact g128
  have b135 : M2 135 = upd (M 135) w (M 135 w ||| sb N) := by
    rw [hM2 135 (by omega) (by omega)]
    exact g135
  have b136 : ∀ v l, v < 6 → l < 30 → M2 136 (30 * v + l) = if l = N then (if v = w then nI d else nM) else M 136 (30 * v + l) := fun v l hv hl => by
    rw [hM2 136 (by omega) (by omega)]
    exact g136 v l hv hl
  have e2N : M2 109 33 = nI (N + 1) := by rw [f2 109 33 (by omega) (by omega)]; exact e33
  refine ⟨m2, M2, C2, ?_, ?_, ⟨?_, ?_, ?_, ?_, ?_, ?_, rc2, ?_, ?_, ?_, ?_⟩, hcl, hml⟩
  · have ekn := e_knownTo (w := w) (m := m) hw
    unfold f_C_enter
    simp only [lits, negs]
    rw [hN, if_neg (nI_ge h30 (by omega)), e_bitCount]
    simp only [jbd_s]
    rw [rc.2.1, nI_add, if_pos (nI_le hroom (by omega)), ekn]
    simp only [jbd_s]
    rw [t1, ead]
    simp only [jbd_s]
    exact es
  · rw [hwr]
    exact ep
  · refine RL2_add rl hm hd ⟨a1, a2, a3, a4, a5, a6, a7, a8, a9, a10, a11, a12, a13, a14, a15, a16⟩ e2N ⟨?_, ?_, ?_, ?_, ?_, ?_, ?_, ?_⟩
    · rw [b121, a1, q1]
    · rw [b122, a2, q2]
    · rw [b123, a3, q3]
    · rw [b124, a4, q4]
    · rw [b125, a5, q5]
    · rw [b126, a6, q6]
    · rw [b127, a7, q7]
    · rw [b128, a8]
  · exact RB2_add rb h30 a15 (hml 109 43 (by omega) (by omega) (by omega)) b129
  · obtain ⟨t, p1, p2, p3, p4, p5⟩ := rt
    refine ⟨t, p1, by rw [hcl 1 1 (by omega) (by omega) (by omega)]; exact p2, by rw [hml 109 2 (by omega) (by omega) (by omega)]; exact p3, by rw [hmr 110 (by omega) (by omega), hcr 2 (by omega) (by omega) (by omega)]; exact p4, fun i => by rw [hcr 2 (by omega) (by omega) (by omega)]; exact p5 i⟩
  · exact ⟨d, hd, by rw [hcl 1 6 (by omega) (by omega) (by omega)]; exact t1, by rw [hml 109 31 (by omega) (by omega) (by omega)]; exact t2⟩
  · obtain ⟨W, r1, r2⟩ := rw_
    refine ⟨W, fun a ha b hb => ?_, r2⟩
    rw [hmr 120 (by omega) (by omega), hcr (47 + a) (by omega) (by omega) (by omega), hcr (54 + a) (by omega) (by omega) (by omega)]
    exact r1 a ha b hb
  · unfold RS2
    rw [hcl 45 2 (by omega) (by omega) (by omega), hcl 45 3 (by omega) (by omega) (by omega), hcl 45 4 (by omega) (by omega) (by omega), hml 109 50 (by omega) (by omega) (by omega), hml 109 51 (by omega) (by omega) (by omega), hml 109 52 (by omega) (by omega) (by omega)]
    exact rs
  · exact RK2_add rk h30 hw hd a1 a2 a13 (hcr 75 (by omega) (by omega) (by omega)) (fun c c1 c2 => hcr c (by omega) (by omega) (by omega)) b135 b136 (hml 109 57 (by omega) (by omega) (by omega))
  · exact RH2_add rh h30 a1 (fun c c1 c2 => hcr c (by omega) (by omega) (by omega)) (hmr 137 (by omega) (by omega)) (hmr 138 (by omega) (by omega))
  · exact RP2_up rp (hcl 89 3 (by omega) (by omega) (by omega)) (hml 109 64 (by omega) (by omega) (by omega)) (hcr 90 (by omega) (by omega) (by omega)) (hcr 91 (by omega) (by omega) (by omega)) (hmr 144 (by omega) (by omega)) (hmr 145 (by omega) (by omega))
  · exact RX2_fr ⟨hcl 1 2 (by omega) (by omega) (by omega), hcl 1 3 (by omega) (by omega) (by omega), hcl 21 4 (by omega) (by omega) (by omega), hcl 21 5 (by omega) (by omega) (by omega), fun c c1 c2 c3 => hcr c (by omega) (by omega) (by omega)⟩ ⟨hml 109 23 (by omega) (by omega) (by omega), hml 109 24 (by omega) (by omega) (by omega), hml 109 6 (by omega) (by omega) (by omega), hml 109 11 (by omega) (by omega) (by omega), fun c c1 c2 => hmr c (by omega) (by omega)⟩ rx
