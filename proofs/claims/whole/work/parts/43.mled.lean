/-! the reference's letters: single methods -/
theorem e_MisLetter {m : jMem} {N l : Nat} (hN : m 109 33 = nI N) (h30 : N ≤ 30) (h : l < N) : f_M_isLetter (nI l) m = some (nI 1, m) := by
  unfold f_M_isLetter
  simp (disch := omega) only [lits, negs, nI_add, nn1, leT, leF, ltT, ltF, eqF, mF1, mF2, mF3, mF4, mF5, mF6, mTT, eq_self, Nat.reduceEqDiff, ↓reduceIte, jbd_s, jpu_e, tI0, tI1, jgd_tI, jgd_bb, tfF, ftF, jup_at, jup_oc, jup_ok, hN]
theorem e_MisLetter_no {m : jMem} {N : Nat} {x : Int32} (hN : m 109 33 = nI N) (h : x < nI 0 ∨ nI N ≤ x) : f_M_isLetter x m = some (nI 0, m) := by
  unfold f_M_isLetter
  simp only [lits, hN]
  rcases h with h | h
  · rw [if_pos h]
  · rw [if_pos h]
    by_cases q : x < nI 0
    · rw [if_pos q]
    · rw [if_neg q]
theorem e_MisWriter {m : jMem} {w : Nat} (h : w < 6) : f_M_isWriter (nI w) m = some (nI 1, m) := by
  unfold f_M_isWriter
  simp (disch := omega) only [lits, negs, nI_add, nn1, leT, leF, ltT, ltF, eqF, mF1, mF2, mF3, mF4, mF5, mF6, mTT, eq_self, Nat.reduceEqDiff, ↓reduceIte, jbd_s, jpu_e, tI0, tI1, jgd_tI, jgd_bb, tfF, ftF, jup_at, jup_oc, jup_ok]
theorem e_MisWriter_no {m : jMem} {x : Int32} (h : x < nI 0 ∨ nI 6 ≤ x) : f_M_isWriter x m = some (nI 0, m) := by
  unfold f_M_isWriter
  simp only [lits]
  rcases h with h | h
  · rw [if_pos h]
  · rw [if_pos h]
    by_cases q : x < nI 0
    · rw [if_pos q]
    · rw [if_neg q]
theorem e_Mis {m : jMem} (b : Bool) : f_M_is (tI b) m = some (tI b, m) := by
  unfold f_M_is
  cases b
  · rfl
  · rfl
theorem e_MisBefore {m : jMem} {a b : Nat} (ha : a < 32) (hb : b < 30) : f_M_isBefore (nI a) (nI b) m = some (tI (bt (m 128 b) a), m) := by
  unfold f_M_isBefore
  simp (disch := omega) only [lits, negs, nI_add, nn1, leT, leF, ltT, ltF, eqF, mF1, mF2, mF3, mF4, mF5, mF6, mTT, eq_self, Nat.reduceEqDiff, ↓reduceIte, jbd_s, jpu_e, tI0, tI1, jgd_tI, jgd_bb, tfF, ftF, jup_at, jup_oc, jup_ok, ld_128, bit1]
  cases bt (m 128 b) a <;> rfl
/-- how many letters of a writer are before one, or are it -/
def numS (P W : Nat → Int32) (l : Nat) (v : Int32) : Nat := (if W l = v then 1 else 0) + fb_ct (fun x => bt (P l) x && decide (W x = v)) l
theorem numS_le (P W : Nat → Int32) (l : Nat) (v : Int32) : numS P W l v ≤ l + 1 := by
  have h := fb_ct_le (fun x => bt (P l) x && decide (W x = v)) l
  unfold numS
  split <;> omega
theorem lp_Mnum {l c0 : Nat} {v : Int32} {k : Int32 → jMem → Option (Int32 × jMem)} {m : jMem} (hl : l < 30) : ∀ (d n i : Nat), i + d = l → d < n → lp_M_numberOf_19 (nI l) v k n (nI (c0 + fb_ct (fun x => bt (m 128 l) x && decide (m 121 x = v)) i)) (nI i) m = k (nI (c0 + fb_ct (fun x => bt (m 128 l) x && decide (m 121 x = v)) l)) m := by
  intro d
  induction d with
  | zero =>
    intro n i hid hdn
    obtain ⟨n, rfl⟩ := ex_succ hdn
    rw [show i = l by omega]
    unfold lp_M_numberOf_19
    simp (disch := omega) only [lits, negs, nI_add, nn1, leT, leF, ltT, ltF, eqF, mF1, mF2, mF3, mF4, mF5, mF6, mTT, eq_self, Nat.reduceEqDiff, ↓reduceIte, jbd_s, jpu_e, tI0, tI1, jgd_tI, jgd_bb, tfF, ftF, jup_at, jup_oc, jup_ok]
  | succ d ih =>
    intro n i hid hdn
    obtain ⟨n, rfl⟩ := ex_succ hdn
    have e := ih n (i + 1) (by omega) (by omega)
    unfold lp_M_numberOf_19
    rw [fb_ct_succ] at e
    cases hp : bt (m 128 l) i
    · rw [hp, Bool.false_and, if_neg (by decide)] at e
      simp (disch := omega) only [lits, negs, nI_add, nn1, leT, leF, ltT, ltF, eqF, mF1, mF2, mF3, mF4, mF5, mF6, mTT, eq_self, Nat.reduceEqDiff, ↓reduceIte, jbd_s, jpu_e, tI0, tI1, jgd_tI, jgd_bb, tfF, ftF, jup_at, jup_oc, jup_ok, e_MisBefore, hp, Nat.add_zero] at e ⊢
      exact e
    · rw [hp, Bool.true_and] at e
      by_cases hq : m 121 i = v
      · rw [decide_eq_true hq, if_pos rfl, ← Nat.add_assoc] at e
        simp (disch := omega) only [lits, negs, nI_add, nn1, leT, leF, ltT, ltF, eqF, mF1, mF2, mF3, mF4, mF5, mF6, mTT, eq_self, Nat.reduceEqDiff, ↓reduceIte, jbd_s, jpu_e, tI0, tI1, jgd_tI, jgd_bb, tfF, ftF, jup_at, jup_oc, jup_ok, e_MisBefore, hp, ld_121, hq] at e ⊢
        exact e
      · rw [decide_eq_false hq, if_neg (by decide)] at e
        simp (disch := omega) only [lits, negs, nI_add, nn1, leT, leF, ltT, ltF, eqF, mF1, mF2, mF3, mF4, mF5, mF6, mTT, eq_self, Nat.reduceEqDiff, ↓reduceIte, jbd_s, jpu_e, tI0, tI1, jgd_tI, jgd_bb, tfF, ftF, jup_at, jup_oc, jup_ok, e_MisBefore, hp, ld_121, Nat.add_zero] at e ⊢
        rw [if_neg hq]
        exact e
theorem e_Mnum {l : Nat} {v : Int32} {m : jMem} (hl : l < 30) : f_M_numberOf (nI l) v m = some (nI (numS (m 128) (m 121) l v), m) := by
  unfold f_M_numberOf numS
  simp (disch := omega) only [lits, negs, nI_add, nn1, leT, leF, ltT, ltF, eqF, mF1, mF2, mF3, mF4, mF5, mF6, mTT, eq_self, Nat.reduceEqDiff, ↓reduceIte, jbd_s, jpu_e, tI0, tI1, jgd_tI, jgd_bb, tfF, ftF, jup_at, jup_oc, jup_ok, ld_121]
  by_cases h : m 121 l = v
  · rw [if_pos h, if_pos h]
    exact lp_Mnum (c0 := 1) hl l 5000 0 (by omega) (by omega)
  · rw [if_neg h, if_neg h]
    exact lp_Mnum (c0 := 0) hl l 5000 0 (by omega) (by omega)
/-- the list of a letter -/
def andO (p : Nat → Bool) (f : Nat → Int32) (s : Int32) : Nat → Int32
  | 0 => s
  | n + 1 => if p n then andO p f s n &&& (f n ^^^ nM) else andO p f s n
theorem andO_succ (p : Nat → Bool) (f : Nat → Int32) (s : Int32) (n : Nat) : andO p f s (n + 1) = if p n then andO p f s n &&& (f n ^^^ nM) else andO p f s n := rfl
theorem andO_aO {p : Nat → Bool} {f : Nat → Int32} {s : Int32} : ∀ (n : Nat), andO p f s n = s &&& (aO p f n ^^^ nM)
  | 0 => by
    apply b_ext
    intro j hj
    unfold andO aO
    rw [b_and, b_not hj, b_n0]
    simp
  | n + 1 => by
    have ih := andO_aO (p := p) (f := f) (s := s) n
    unfold andO aO
    cases p n
    · exact ih
    · rw [if_pos rfl, if_pos rfl, ih]
      apply b_ext
      intro j hj
      rw [b_and, b_and, b_not hj, b_not hj, b_and, b_not hj, b_or]
      cases bt s j <;> cases bt (aO p f n) j <;> cases bt (f n) j <;> rfl
theorem lp_Mlist {l : Nat} {s : Int32} {k : Int32 → jMem → Option (Int32 × jMem)} {m : jMem} (hl : l < 30) : ∀ (d n i : Nat), i + d = l → d < n → lp_M_listOf_9 (nI l) k n (andO (bt (m 128 l)) (m 128) s i) (nI i) m = k (andO (bt (m 128 l)) (m 128) s l) m := by
  intro d
  induction d with
  | zero =>
    intro n i hid hdn
    obtain ⟨n, rfl⟩ := ex_succ hdn
    rw [show i = l by omega]
    unfold lp_M_listOf_9
    simp (disch := omega) only [lits, negs, nI_add, nn1, leT, leF, ltT, ltF, eqF, mF1, mF2, mF3, mF4, mF5, mF6, mTT, eq_self, Nat.reduceEqDiff, ↓reduceIte, jbd_s, jpu_e, tI0, tI1, jgd_tI, jgd_bb, tfF, ftF, jup_at, jup_oc, jup_ok]
  | succ d ih =>
    intro n i hid hdn
    obtain ⟨n, rfl⟩ := ex_succ hdn
    have e := ih n (i + 1) (by omega) (by omega)
    unfold lp_M_listOf_9
    rw [andO_succ] at e
    cases hp : bt (m 128 l) i
    · rw [hp] at e
      simp (disch := omega) only [lits, negs, nI_add, nn1, leT, leF, ltT, ltF, eqF, mF1, mF2, mF3, mF4, mF5, mF6, mTT, eq_self, Nat.reduceEqDiff, ↓reduceIte, jbd_s, jpu_e, tI0, tI1, jgd_tI, jgd_bb, tfF, ftF, jup_at, jup_oc, jup_ok, e_MisBefore, hp] at e ⊢
      exact e
    · rw [hp] at e
      simp (disch := omega) only [lits, negs, nI_add, nn1, leT, leF, ltT, ltF, eqF, mF1, mF2, mF3, mF4, mF5, mF6, mTT, eq_self, Nat.reduceEqDiff, ↓reduceIte, jbd_s, jpu_e, tI0, tI1, jgd_tI, jgd_bb, tfF, ftF, jup_at, jup_oc, jup_ok, e_MisBefore, hp, ld_128] at e ⊢
      exact e
theorem e_Mlist {l : Nat} {m : jMem} (hl : l < 30) : f_M_listOf (nI l) m = some (m 128 l &&& (aO (bt (m 128 l)) (m 128) l ^^^ nM), m) := by
  unfold f_M_listOf
  simp (disch := omega) only [lits, negs, nI_add, nn1, leT, leF, ltT, ltF, eqF, mF1, mF2, mF3, mF4, mF5, mF6, mTT, eq_self, Nat.reduceEqDiff, ↓reduceIte, jbd_s, jpu_e, tI0, tI1, jgd_tI, jgd_bb, tfF, ftF, jup_at, jup_oc, jup_ok, ld_128]
  rw [← andO_aO]
  exact lp_Mlist hl l 5000 0 (by omega) (by omega)
/-! sums -/
theorem lp_Msum1 {l : Int32} {v2 : Int32} {x : Nat} {s : Nat → Nat} {P : Nat → Int32} {k : jMem → Option (Int32 × jMem)} (hx : x < 30) (hs : ∀ y, y < x → s y ≤ 1000) : ∀ (d n i : Nat) (m : jMem), i + d = x → d < n → m 128 = P → (∀ y, y < x → m 140 y = nI (s y)) → m 140 x = nI (1 + mxS (bt (P x)) s i) → ∃ m', lp_M_sumOf_19 l v2 (nI x) k n (nI i) m = k m' ∧ (∀ c, c ≠ 140 → m' c = m c) ∧ (∀ y, y < x → m' 140 y = nI (s y)) ∧ m' 140 x = nI (1 + mxS (bt (P x)) s x) := by
  intro d
  induction d with
  | zero =>
    intro n i m h hn hP h1 h2
    obtain ⟨n, rfl⟩ := ex_succ hn
    have e : i = x := by omega
    subst e
    refine ⟨m, ?_, fun _ _ => rfl, h1, h2⟩
    unfold lp_M_sumOf_19
    simp (disch := omega) only [lits, negs, nI_add, nn1, leT, leF, ltT, ltF, eqF, mF1, mF2, mF3, mF4, mF5, mF6, mTT, eq_self, Nat.reduceEqDiff, ↓reduceIte, jbd_s, jpu_e, tI0, tI1, jgd_tI, jgd_bb, tfF, ftF, jup_at, jup_oc, jup_ok]
  | succ d ih =>
    intro n i m h hn hP h1 h2
    obtain ⟨n, rfl⟩ := ex_succ hn
    have hm := mxS_le (p := bt (P x)) (f := s) (n := i) (B := 1000) (fun y hy => hs y (by omega))
    have hsi := hs i (by omega)
    cases hp : bt (P x) i
    · obtain ⟨m', e, r⟩ := ih n (i + 1) m (by omega) (by omega) hP h1 (by rw [h2, mxS_succ, hp, if_neg (by decide)])
      refine ⟨m', ?_, r⟩
      unfold lp_M_sumOf_19
      simp (disch := omega) only [lits, negs, nI_add, nn1, leT, leF, ltT, ltF, eqF, mF1, mF2, mF3, mF4, mF5, mF6, mTT, eq_self, Nat.reduceEqDiff, ↓reduceIte, jbd_s, jpu_e, tI0, tI1, jgd_tI, jgd_bb, tfF, ftF, jup_at, jup_oc, jup_ok, e_MisBefore, hP, hp]
      exact e
    · obtain ⟨m', e, r1, r2, r3⟩ := ih n (i + 1) (jup m 140 x (nI (1 + mxS (bt (P x)) s (i + 1)))) (by omega) (by omega) (by rw [jup_oc (by omega)]; exact hP) (fun y hy => by rw [jup_ok (by omega)]; exact h1 y hy) jup_at
      refine ⟨m', ?_, fun c hc => by rw [r1 c hc, jup_oc hc], r2, r3⟩
      unfold lp_M_sumOf_19
      have e9 : max (1 + mxS (bt (P x)) s i) (s i + 1) = 1 + mxS (bt (P x)) s (i + 1) := by
        rw [mxS_succ, hp, if_pos rfl]
        omega
      simp (disch := omega) only [lits, negs, nI_add, nn1, leT, leF, ltT, ltF, eqF, mF1, mF2, mF3, mF4, mF5, mF6, mTT, eq_self, Nat.reduceEqDiff, ↓reduceIte, jbd_s, jpu_e, tI0, tI1, jgd_tI, jgd_bb, tfF, ftF, jup_at, jup_oc, jup_ok, e_MisBefore, hP, hp, ld_140, h1, h2, jmax_nI, st_140, e9]
      exact e
theorem lp_Msum2 {l : Nat} {s : Nat → Nat} {P : Nat → Int32} {k : Int32 → jMem → Option (Int32 × jMem)} (hl : l < 30) (hs : ∀ y, y < l → s y ≤ 1000) (hr : ∀ y, y < l → s y = 1 + mxS (bt (P y)) s y) : ∀ (d n i : Nat) (m : jMem), i + d = l → d < n → m 128 = P → (∀ y, y < i → m 140 y = nI (s y)) → ∃ m', lp_M_sumOf_4 (nI l) k n (nI (mxS (bt (P l)) s i)) (nI i) m = k (nI (mxS (bt (P l)) s l)) m' ∧ (∀ c, c ≠ 140 → m' c = m c) := by
  intro d
  induction d with
  | zero =>
    intro n i m h hn hP h1
    obtain ⟨n, rfl⟩ := ex_succ hn
    have e : i = l := by omega
    subst e
    refine ⟨m, ?_, fun _ _ => rfl⟩
    unfold lp_M_sumOf_4
    simp (disch := omega) only [lits, negs, nI_add, nn1, leT, leF, ltT, ltF, eqF, mF1, mF2, mF3, mF4, mF5, mF6, mTT, eq_self, Nat.reduceEqDiff, ↓reduceIte, jbd_s, jpu_e, tI0, tI1, jgd_tI, jgd_bb, tfF, ftF, jup_at, jup_oc, jup_ok]
  | succ d ih =>
    intro n i m h hn hP h1
    obtain ⟨n, rfl⟩ := ex_succ hn
    have hm := mxS_le (p := bt (P l)) (f := s) (n := i) (B := 1000) (fun y hy => hs y (by omega))
    have hsi := hs i (by omega)
    let K : jMem → Option (Int32 × jMem) := fun m7 =>
        jbd (f_M_isBefore (nI i) (nI l) m7) fun x8 m9 =>
        if x8 = 0 then
          lp_M_sumOf_4 (nI l) k n (nI (mxS (bt (P l)) s i)) (nI i + (1 : Int32)) m9
        else
          jld 1 m9 140 (nI i) fun x10 =>
          lp_M_sumOf_4 (nI l) k n (jmax (nI (mxS (bt (P l)) s i)) x10) (nI i + (1 : Int32)) m9
    obtain ⟨m1, e1, f1, g1, g2⟩ := lp_Msum1 (l := nI l) (v2 := nI (mxS (bt (P l)) s i)) (x := i) (s := s) (P := P) (k := K) (by omega) (fun y hy => hs y (by omega)) i 5000 0 (jup m 140 i (nI 1)) (by omega) (by omega) (by rw [jup_oc (by omega)]; exact hP) (fun y hy => by rw [jup_ok (by omega)]; exact h1 y hy) jup_at
    have hP1 : m1 128 = P := by rw [f1 128 (by omega), jup_oc (by omega)]; exact hP
    have hI : ∀ y, y < i + 1 → m1 140 y = nI (s y) := by
      intro y hy
      rcases Nat.lt_or_ge y i with q | q
      · exact g1 y q
      · have q2 : y = i := by omega
        subst q2
        rw [g2, ← hr y (by omega)]
    obtain ⟨m', e, r⟩ := ih n (i + 1) m1 (by omega) (by omega) hP1 hI
    refine ⟨m', ?_, fun c hc => by rw [r c hc, f1 c hc, jup_oc hc]⟩
    unfold lp_M_sumOf_4
    simp (disch := omega) only [lits, negs, nI_add, nn1, leT, leF, ltT, ltF, eqF, mF1, mF2, mF3, mF4, mF5, mF6, mTT, eq_self, Nat.reduceEqDiff, ↓reduceIte, jbd_s, jpu_e, tI0, tI1, jgd_tI, jgd_bb, tfF, ftF, jup_at, jup_oc, jup_ok, st_140]
    have e1' := e1
    simp only [K] at e1'
    simp (disch := omega) only [lits, negs, nI_add, nn1, leT, leF, ltT, ltF, eqF, mF1, mF2, mF3, mF4, mF5, mF6, mTT, eq_self, Nat.reduceEqDiff, ↓reduceIte, jbd_s, jpu_e, tI0, tI1, jgd_tI, jgd_bb, tfF, ftF, jup_at, jup_oc, jup_ok] at e1'
    rw [e1']
    rw [mxS_succ] at e
    cases hp : bt (P l) i
    · rw [hp] at e
      simp (disch := omega) only [lits, negs, nI_add, nn1, leT, leF, ltT, ltF, eqF, mF1, mF2, mF3, mF4, mF5, mF6, mTT, eq_self, Nat.reduceEqDiff, ↓reduceIte, jbd_s, jpu_e, tI0, tI1, jgd_tI, jgd_bb, tfF, ftF, jup_at, jup_oc, jup_ok, e_MisBefore, hP1, hp] at e ⊢
      exact e
    · rw [hp] at e
      simp (disch := omega) only [lits, negs, nI_add, nn1, leT, leF, ltT, ltF, eqF, mF1, mF2, mF3, mF4, mF5, mF6, mTT, eq_self, Nat.reduceEqDiff, ↓reduceIte, jbd_s, jpu_e, tI0, tI1, jgd_tI, jgd_bb, tfF, ftF, jup_at, jup_oc, jup_ok, e_MisBefore, hP1, hp, ld_140, hI, jmax_nI] at e ⊢
      exact e
theorem e_Msum {l : Nat} {s : Nat → Nat} {m : jMem} (hl : l < 30) (hs : ∀ y, y < l → s y ≤ 1000) (hr : ∀ y, y < l → s y = 1 + mxS (bt (m 128 y)) s y) : ∃ m', f_M_sumOf (nI l) m = some (nI (mxS (bt (m 128 l)) s l + 1), m') ∧ (∀ c, c ≠ 140 → m' c = m c) := by
  obtain ⟨m', e, r⟩ := lp_Msum2 (k := fun w12 m11 => some ((w12 + nI 1), m11)) hl hs hr l 5000 0 m (by omega) (by omega) rfl (fun y hy => absurd hy (Nat.not_lt_zero y))
  refine ⟨m', ?_, r⟩
  unfold f_M_sumOf
  simp (disch := omega) only [lits, negs, nI_add, nn1, leT, leF, ltT, ltF, eqF, mF1, mF2, mF3, mF4, mF5, mF6, mTT, eq_self, Nat.reduceEqDiff, ↓reduceIte, jbd_s, jpu_e, tI0, tI1, jgd_tI, jgd_bb, tfF, ftF, jup_at, jup_oc, jup_ok]
  rw [nI_add] at e
  exact e
