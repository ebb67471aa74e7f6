/-! .. the reference's, and a line -/
theorem e_Mis1 {m : jMem} : f_M_is (nI 1) m = some (nI 1, m) := e_Mis true
theorem e_Mis0 {m : jMem} : f_M_is (nI 0) m = some (nI 0, m) := e_Mis false
theorem e_doesN {p : Nat} {m : jMem} (hp : p < 72) (h : m 109 30 = nI (p + 1)) : f_M_does (nI 260) m = some ((), jup m 119 p (tI (decide (m 119 p = nI 0)))) := by
  have e1 : nI (p + 1) - nI 1 = nI p := nn1 p
  unfold f_M_does
  simp only [lits, negs]
  by_cases h0 : m 119 p = nI 0
  · simp (disch := omega) only [lits, negs, nI_add, nn1, leT, leF, ltT, ltF, eqF, mF1, mF2, mF3, mF4, mF5, mF6, mTT, eq_self, Nat.reduceEqDiff, ↓reduceIte, ↓jbd_s, ↓jpu_e, tI0, tI1, jgd_tI, jgd_bb, tfF, ftF, jup_at, jup_oc, jup_ok, h, e1, ↓ld_119, h0, ↓jb (e_Mis1 (m := m)), ↓st_119, decide_true, tI_t]
  · simp (disch := omega) only [lits, negs, nI_add, nn1, leT, leF, ltT, ltF, eqF, mF1, mF2, mF3, mF4, mF5, mF6, mTT, eq_self, Nat.reduceEqDiff, ↓reduceIte, ↓jbd_s, ↓jpu_e, tI0, tI1, jgd_tI, jgd_bb, tfF, ftF, jup_at, jup_oc, jup_ok, h, e1, ↓ld_119, h0, ↓jb (e_Mis0 (m := m)), ↓st_119, decide_false, tI_f]
theorem e_does {p t : Nat} {m : jMem} (hb : binT t) (hp : p + 1 < 72) (h : m 109 30 = nI (p + 2)) : f_M_does (nI (sgnV t)) m = some ((), jup (jup m 109 30 (nI (p + 1))) 119 p (jnS t (m 119 p) (m 119 (p + 1)))) := by
  have e1 : nI (p + 2) - nI 1 = nI (p + 1) := nn1 (p + 1)
  have e2 : nI (p + 1) - nI 1 = nI p := nn1 p
  have r30 : jup m 109 30 (nI (p + 1)) 109 30 = nI (p + 1) := jup_at
  have r119 : jup m 109 30 (nI (p + 1)) 119 = m 119 := jup_oc (by omega)
  generalize ha : m 119 p = a
  generalize hbb : m 119 (p + 1) = b
  unfold f_M_does
  simp only [lits, negs]
  rcases hb with rfl | rfl | rfl | rfl | rfl | rfl | rfl | rfl | rfl | rfl
  · rw [show sgnV 1023 = 262 from rfl, jnS_1, if_neg (by rw [eqF (by omega) (by omega) (by omega)]; exact id), jpu_e, h, e1, r30, e2, ld_119 (by omega), ld_119 (by omega), r119, ha, hbb]
    by_cases h1 : a = nI 0 <;> by_cases h2 : b = nI 0 <;> simp (disch := omega) only [lits, negs, nI_add, nn1, leT, leF, ltT, ltF, eqF, mF1, mF2, mF3, mF4, mF5, mF6, mTT, eq_self, Nat.reduceEqDiff, ↓reduceIte, ↓jbd_s, ↓jpu_e, tI0, tI1, jgd_tI, jgd_bb, tfF, ftF, jup_at, jup_oc, jup_ok, h1, h2, e_Mis0, e_Mis1, e2, ↓st_119, decide_true, decide_false, Bool.not_true, Bool.not_false, Bool.or_true, Bool.true_or, Bool.or_false, tI_t, tI_f]
  · rw [show sgnV 1024 = 261 from rfl, jnS_2, if_neg (by rw [eqF (by omega) (by omega) (by omega)]; exact id), jpu_e, h, e1, r30, e2, ld_119 (by omega), ld_119 (by omega), r119, ha, hbb]
    by_cases h1 : a = nI 0 <;> by_cases h2 : b = nI 0 <;> simp (disch := omega) only [lits, negs, nI_add, nn1, leT, leF, ltT, ltF, eqF, mF1, mF2, mF3, mF4, mF5, mF6, mTT, eq_self, Nat.reduceEqDiff, ↓reduceIte, ↓jbd_s, ↓jpu_e, tI0, tI1, jgd_tI, jgd_bb, tfF, ftF, jup_at, jup_oc, jup_ok, h1, h2, e_Mis0, e_Mis1, e2, ↓st_119, decide_true, decide_false, Bool.not_true, Bool.not_false, Bool.and_true, Bool.true_and, Bool.and_false, Bool.false_and, tI_t, tI_f]
  · rw [show sgnV 1026 = 60 from rfl, jnS_3, if_neg (by rw [eqF (by omega) (by omega) (by omega)]; exact id), jpu_e, h, e1, r30, e2, ld_119 (by omega), ld_119 (by omega), r119, ha, hbb]
    have e : b ≤ a ↔ ¬ a < b := by rw [Int32.not_lt]
    by_cases h1 : a < b
    · have h2 : ¬ b ≤ a := by rw [e]; exact fun z => z h1
      simp (disch := omega) only [lits, negs, nI_add, nn1, leT, leF, ltT, ltF, eqF, mF1, mF2, mF3, mF4, mF5, mF6, mTT, eq_self, Nat.reduceEqDiff, ↓reduceIte, ↓jbd_s, ↓jpu_e, tI0, tI1, jgd_tI, jgd_bb, tfF, ftF, jup_at, jup_oc, jup_ok, h1, h2, e_Mis0, e_Mis1, e2, ↓st_119, decide_true, tI_t]
    · have h2 : b ≤ a := e.mpr h1
      simp (disch := omega) only [lits, negs, nI_add, nn1, leT, leF, ltT, ltF, eqF, mF1, mF2, mF3, mF4, mF5, mF6, mTT, eq_self, Nat.reduceEqDiff, ↓reduceIte, ↓jbd_s, ↓jpu_e, tI0, tI1, jgd_tI, jgd_bb, tfF, ftF, jup_at, jup_oc, jup_ok, h1, h2, e_Mis0, e_Mis1, e2, ↓st_119, decide_false, tI_f]
  · rw [show sgnV 1027 = 256 from rfl, jnS_4, if_neg (by rw [eqF (by omega) (by omega) (by omega)]; exact id), jpu_e, h, e1, r30, e2, ld_119 (by omega), ld_119 (by omega), r119, ha, hbb]
    have e : a ≤ b ↔ ¬ b < a := by rw [Int32.not_lt]
    by_cases h1 : b < a
    · have h2 : ¬ a ≤ b := by rw [e]; exact fun z => z h1
      simp (disch := omega) only [lits, negs, nI_add, nn1, leT, leF, ltT, ltF, eqF, mF1, mF2, mF3, mF4, mF5, mF6, mTT, eq_self, Nat.reduceEqDiff, ↓reduceIte, ↓jbd_s, ↓jpu_e, tI0, tI1, jgd_tI, jgd_bb, tfF, ftF, jup_at, jup_oc, jup_ok, h1, h2, e_Mis0, e_Mis1, e2, ↓st_119, decide_false, tI_f]
    · have h2 : a ≤ b := e.mpr h1
      simp (disch := omega) only [lits, negs, nI_add, nn1, leT, leF, ltT, ltF, eqF, mF1, mF2, mF3, mF4, mF5, mF6, mTT, eq_self, Nat.reduceEqDiff, ↓reduceIte, ↓jbd_s, ↓jpu_e, tI0, tI1, jgd_tI, jgd_bb, tfF, ftF, jup_at, jup_oc, jup_ok, h1, h2, e_Mis0, e_Mis1, e2, ↓st_119, decide_true, tI_t]
  · rw [show sgnV 1028 = 61 from rfl, jnS_5, if_neg (by rw [eqF (by omega) (by omega) (by omega)]; exact id), jpu_e, h, e1, r30, e2, ld_119 (by omega), ld_119 (by omega), r119, ha, hbb]
    by_cases h1 : a = b <;> simp (disch := omega) only [lits, negs, nI_add, nn1, leT, leF, ltT, ltF, eqF, mF1, mF2, mF3, mF4, mF5, mF6, mTT, eq_self, Nat.reduceEqDiff, ↓reduceIte, ↓jbd_s, ↓jpu_e, tI0, tI1, jgd_tI, jgd_bb, tfF, ftF, jup_at, jup_oc, jup_ok, h1, e_Mis0, e_Mis1, e2, ↓st_119, decide_true, decide_false, tI_t, tI_f]
  · rw [show sgnV 1029 = 257 from rfl, jnS_6, if_neg (by rw [eqF (by omega) (by omega) (by omega)]; exact id), jpu_e, h, e1, r30, e2, ld_119 (by omega), ld_119 (by omega), r119, ha, hbb]
    by_cases h1 : a = b <;> simp (disch := omega) only [lits, negs, nI_add, nn1, leT, leF, ltT, ltF, eqF, mF1, mF2, mF3, mF4, mF5, mF6, mTT, eq_self, Nat.reduceEqDiff, ↓reduceIte, ↓jbd_s, ↓jpu_e, tI0, tI1, jgd_tI, jgd_bb, tfF, ftF, jup_at, jup_oc, jup_ok, h1, e_Mis0, e_Mis1, e2, ↓st_119, decide_true, decide_false, Bool.not_true, Bool.not_false, tI_t, tI_f]
  · rw [show sgnV 1030 = 258 from rfl, jnS_7, if_neg (by rw [eqF (by omega) (by omega) (by omega)]; exact id), jpu_e, h, e1, r30, e2, ld_119 (by omega), ld_119 (by omega), r119, ha, hbb]
    have e : b ≤ a ↔ ¬ a < b := by rw [Int32.not_lt]
    by_cases h1 : a < b
    · have h2 : ¬ b ≤ a := by rw [e]; exact fun z => z h1
      simp (disch := omega) only [lits, negs, nI_add, nn1, leT, leF, ltT, ltF, eqF, mF1, mF2, mF3, mF4, mF5, mF6, mTT, eq_self, Nat.reduceEqDiff, ↓reduceIte, ↓jbd_s, ↓jpu_e, tI0, tI1, jgd_tI, jgd_bb, tfF, ftF, jup_at, jup_oc, jup_ok, h1, h2, e_Mis0, e_Mis1, e2, ↓st_119, decide_false, tI_f]
    · have h2 : b ≤ a := e.mpr h1
      simp (disch := omega) only [lits, negs, nI_add, nn1, leT, leF, ltT, ltF, eqF, mF1, mF2, mF3, mF4, mF5, mF6, mTT, eq_self, Nat.reduceEqDiff, ↓reduceIte, ↓jbd_s, ↓jpu_e, tI0, tI1, jgd_tI, jgd_bb, tfF, ftF, jup_at, jup_oc, jup_ok, h1, h2, e_Mis0, e_Mis1, e2, ↓st_119, decide_true, tI_t]
  · rw [show sgnV 1031 = 62 from rfl, jnS_8, if_neg (by rw [eqF (by omega) (by omega) (by omega)]; exact id), jpu_e, h, e1, r30, e2, ld_119 (by omega), ld_119 (by omega), r119, ha, hbb]
    have e : a ≤ b ↔ ¬ b < a := by rw [Int32.not_lt]
    by_cases h1 : b < a
    · have h2 : ¬ a ≤ b := by rw [e]; exact fun z => z h1
      simp (disch := omega) only [lits, negs, nI_add, nn1, leT, leF, ltT, ltF, eqF, mF1, mF2, mF3, mF4, mF5, mF6, mTT, eq_self, Nat.reduceEqDiff, ↓reduceIte, ↓jbd_s, ↓jpu_e, tI0, tI1, jgd_tI, jgd_bb, tfF, ftF, jup_at, jup_oc, jup_ok, h1, h2, e_Mis0, e_Mis1, e2, ↓st_119, decide_true, tI_t]
    · have h2 : a ≤ b := e.mpr h1
      simp (disch := omega) only [lits, negs, nI_add, nn1, leT, leF, ltT, ltF, eqF, mF1, mF2, mF3, mF4, mF5, mF6, mTT, eq_self, Nat.reduceEqDiff, ↓reduceIte, ↓jbd_s, ↓jpu_e, tI0, tI1, jgd_tI, jgd_bb, tfF, ftF, jup_at, jup_oc, jup_ok, h1, h2, e_Mis0, e_Mis1, e2, ↓st_119, decide_false, tI_f]
  · rw [show sgnV 1032 = 43 from rfl, jnS_9, if_neg (by rw [eqF (by omega) (by omega) (by omega)]; exact id), jpu_e, h, e1, r30, e2, ld_119 (by omega), ld_119 (by omega), r119, ha, hbb]
    simp (disch := omega) only [lits, negs, nI_add, nn1, leT, leF, ltT, ltF, eqF, mF1, mF2, mF3, mF4, mF5, mF6, mTT, eq_self, Nat.reduceEqDiff, ↓reduceIte, ↓jbd_s, ↓jpu_e, tI0, tI1, jgd_tI, jgd_bb, tfF, ftF, jup_at, jup_oc, jup_ok, e2, ↓st_119]
  · rw [show sgnV 1033 = 45 from rfl, jnS_10, if_neg (by rw [eqF (by omega) (by omega) (by omega)]; exact id), jpu_e, h, e1, r30, e2, ld_119 (by omega), ld_119 (by omega), r119, ha, hbb]
    simp (disch := omega) only [lits, negs, nI_add, nn1, leT, leF, ltT, ltF, eqF, mF1, mF2, mF3, mF4, mF5, mF6, mTT, eq_self, Nat.reduceEqDiff, ↓reduceIte, ↓jbd_s, ↓jpu_e, tI0, tI1, jgd_tI, jgd_bb, tfF, ftF, jup_at, jup_oc, jup_ok, e2, ↓st_119]
theorem dpS_s (f : Nat → Int32) (b k : Nat) : dpS f b (k + 1) = if f (b + k) = nI 1025 then dpS f b k else if nI 1023 ≤ f (b + k) then dpS f b k - 1 else dpS f b k + 1 := rfl
theorem dpS_le {f : Nat → Int32} {b : Nat} : ∀ k, dpS f b k ≤ k
  | 0 => Nat.le_refl _
  | k + 1 => by
    have ih := dpS_le (f := f) (b := b) k
    rw [dpS_s]
    split
    · omega
    · split <;> omega
/-- a line's knots are worked out, side by side -/
theorem sim_knots {hb h b e : Nat} {kC : Int32 → jMem → Option (Int32 × jMem)} {kM : jMem → Option (Int32 × jMem)} {f : Nat → Int32} (hh : hb = 3 ∨ hb = 12) (h8 : h < 8) (hbe : b ≤ e) (he : e ≤ 64) (hok : dpOK f b (e - b)) : ∀ (d k : Nat) (m M : jMem) (n n' : Nat), b + k + d = e → d < n → d < n' → m (hb + 6) = f → m (hb + 5) h = nI e → M 115 (h + 1) = nI e → (∀ k, b ≤ k → k < e → knR (m (hb + 6) k) (m (hb + 7) k) (M 111 k) (M 112 k)) → (∀ i, i < 7 → m 28 i = M 118 i) → M 109 30 = nI (dpS f b k) → (∀ i, i < dpS f b k → m (hb + 8) i = M 119 i) → ∃ m' M', lp_H_holds_24 hb (nI h) 28 kC n (nI (dpS f b k)) (nI (b + k)) m = kC (nI (dpS f b (e - b))) m' ∧ lp_M_holdsE_12 (nI h) kM n' (nI (b + k)) M = kM M' ∧ (∀ c, c ≠ hb + 8 → m' c = m c) ∧ (∀ c k, c ≠ 119 → ¬ (c = 109 ∧ k = 30) → M' c k = M c k) ∧ (∀ i, i < dpS f b (e - b) → m' (hb + 8) i = M' 119 i) := by
  obtain ⟨l6, l7, l8, l4, l5, -⟩ := jhlen hh
  intro d
  induction d with
  | zero =>
    intro k m M n n' hk hn hn' h1 h2 h3 h4 h5 h6 h7
    obtain ⟨n, rfl⟩ := ex_succ hn
    obtain ⟨n', rfl⟩ := ex_succ hn'
    have ek : k = e - b := by omega
    subst ek
    refine ⟨m, M, ?_, ?_, fun _ _ => rfl, fun _ _ _ _ => rfl, h7⟩
    · unfold lp_H_holds_24
      simp (disch := omega) only [↓jld_nI l5, h2, leT, ↓reduceIte]
    · unfold lp_M_holdsE_12
      simp (disch := omega) only [lits, negs, nI_add, nn1, leT, leF, ltT, ltF, eqF, mF1, mF2, mF3, mF4, mF5, mF6, mTT, eq_self, Nat.reduceEqDiff, ↓reduceIte, jbd_s, jpu_e, tI0, tI1, jgd_tI, jgd_bb, tfF, ftF, jup_at, jup_oc, jup_ok, ld_115, h3]
  | succ d ih =>
    intro k m M n n' hk hn hn' h1 h2 h3 h4 h5 h6 h7
    obtain ⟨n, rfl⟩ := ex_succ hn
    obtain ⟨n', rfl⟩ := ex_succ hn'
    have hkn := h4 (b + k) (by omega) (by omega)
    have hdk := dpS_le (f := f) (b := b) k
    obtain ⟨ok1, ok2⟩ := hok k (by omega)
    have hfk : m (hb + 6) (b + k) = f (b + k) := by rw [h1]
    rcases hkn with ⟨v, hv, k1, k2, k3, k4⟩ | ⟨i, hi, k1, k3, k4⟩ | ⟨t, ht1, ht2, k1, k3, k4⟩
    · -- a number
      have hd : dpS f b (k + 1) = dpS f b k + 1 := by
        rw [dpS_s, ← hfk, k1, if_neg (by rw [eqF (by omega) (by omega) (by omega)]; exact id), if_neg (by rw [leF (by omega) (by omega)]; exact id)]
      have ew := wo_num (k := b + k) (top := dpS f b k) hh (by omega) k1 (by omega)
      rw [k2] at ew
      obtain ⟨m', M', e1, e2, f1, f2, f3⟩ := ih (k + 1) (jup m (hb + 8) (dpS f b k) (nI v)) (jup (jup M 119 (dpS f b k) (nI v)) 109 30 (nI (dpS f b k + 1))) n n' (by omega) (by omega) (by omega) (by rw [jup_oc (by omega)]; exact h1) (by rw [jup_oc (by omega)]; exact h2) (by rw [jup_oc (by omega), jup_oc (by omega)]; exact h3) (fun k a c => by
        rw [jup_oc (c' := hb + 6) (by omega), jup_oc (c' := hb + 7) (by omega), jup_oc (c' := 111) (by omega), jup_oc (c' := 111) (by omega), jup_oc (c' := 112) (by omega), jup_oc (c' := 112) (by omega)]
        exact h4 k a c) (fun i hi => by rw [jup_oc (by omega), jup_oc (by omega), jup_oc (by omega)]; exact h5 i hi) (by rw [jup_at, hd]) (fun i hi => by
        rw [jup_oc (c' := 119) (by omega)]
        by_cases q : i = dpS f b k
        · rw [q, jup_at, jup_at]
        · rw [jup_ok q, jup_ok q]; exact h7 i (by omega))
      refine ⟨m', M', ?_, ?_, fun c hc => by rw [f1 c hc, jup_oc hc], fun c j hc hj => by rw [f2 c j hc hj, show ∀ (X : jMem) (x : Int32), jup X 109 30 x c j = X c j from fun X x => if_neg hj, jup_oc hc], f3⟩
      · rw [hd, show b + (k + 1) = b + k + 1 by omega] at e1
        unfold lp_H_holds_24
        simp (disch := omega) only [lits, ↓jld_nI l5, h2, leF, ↓reduceIte, ew, jbd_s, nI_add]
        exact e1
      · rw [show b + (k + 1) = b + k + 1 by omega] at e2
        unfold lp_M_holdsE_12
        simp only [lits, negs]
        simp (disch := omega) only [lits, negs, nI_add, nn1, leT, leF, ltT, ltF, eqF, mF1, mF2, mF3, mF4, mF5, mF6, mTT, eq_self, Nat.reduceEqDiff, ↓reduceIte, ↓jbd_s, ↓jpu_e, tI0, tI1, jgd_tI, jgd_bb, tfF, ftF, jup_at, jup_oc, jup_ok, ↓ld_115, h3, ↓ld_111, k3, ↓ld_112, k4, h6, ↓st_119]
        exact e2
    · -- a name
      have hd : dpS f b (k + 1) = dpS f b k + 1 := by
        rw [dpS_s, ← hfk, k1, if_neg (by rw [eqF (by omega) (by omega) (by omega)]; exact id), if_neg (by rw [leF (by omega) (by omega)]; exact id)]
      have ew := wo_name (k := b + k) (top := dpS f b k) hh (by omega) hi k1 (by omega)
      rw [h5 i hi] at ew
      obtain ⟨m', M', e1, e2, f1, f2, f3⟩ := ih (k + 1) (jup m (hb + 8) (dpS f b k) (M 118 i)) (jup (jup M 119 (dpS f b k) (M 118 i)) 109 30 (nI (dpS f b k + 1))) n n' (by omega) (by omega) (by omega) (by rw [jup_oc (by omega)]; exact h1) (by rw [jup_oc (by omega)]; exact h2) (by rw [jup_oc (by omega), jup_oc (by omega)]; exact h3) (fun k a c => by
        rw [jup_oc (c' := hb + 6) (by omega), jup_oc (c' := hb + 7) (by omega), jup_oc (c' := 111) (by omega), jup_oc (c' := 111) (by omega), jup_oc (c' := 112) (by omega), jup_oc (c' := 112) (by omega)]
        exact h4 k a c) (fun i hi => by rw [jup_oc (by omega), jup_oc (by omega), jup_oc (by omega)]; exact h5 i hi) (by rw [jup_at, hd]) (fun j hj => by
        rw [jup_oc (c' := 119) (by omega)]
        by_cases q : j = dpS f b k
        · rw [q, jup_at, jup_at]
        · rw [jup_ok q, jup_ok q]; exact h7 j (by omega))
      refine ⟨m', M', ?_, ?_, fun c hc => by rw [f1 c hc, jup_oc hc], fun c j hc hj => by rw [f2 c j hc hj, show ∀ (X : jMem) (x : Int32), jup X 109 30 x c j = X c j from fun X x => if_neg hj, jup_oc hc], f3⟩
      · rw [hd, show b + (k + 1) = b + k + 1 by omega] at e1
        unfold lp_H_holds_24
        simp (disch := omega) only [lits, ↓jld_nI l5, h2, leF, ↓reduceIte, ew, jbd_s, nI_add]
        exact e1
      · rw [show b + (k + 1) = b + k + 1 by omega] at e2
        unfold lp_M_holdsE_12
        simp only [lits, negs]
        simp (disch := omega) only [lits, negs, nI_add, nn1, leT, leF, ltT, ltF, eqF, mF1, mF2, mF3, mF4, mF5, mF6, mTT, eq_self, Nat.reduceEqDiff, ↓reduceIte, ↓jbd_s, ↓jpu_e, tI0, tI1, jgd_tI, jgd_bb, tfF, ftF, jup_at, jup_oc, jup_ok, ↓ld_115, h3, ↓ld_111, k3, ↓ld_112, k4, ↓ld_118, h6, ↓st_119]
        exact e2
    · by_cases q25 : t = 1025
      · -- not
        subst q25
        have hge := ok1 (by rw [← hfk, k1])
        obtain ⟨p, hp⟩ : ∃ p, dpS f b k = p + 1 := ⟨dpS f b k - 1, by omega⟩
        have hd : dpS f b (k + 1) = p + 1 := by rw [dpS_s, ← hfk, k1, if_pos rfl, hp]
        have ew := wo_not (k := b + k) (p := p) hh (by omega) k1 (by omega)
        rw [h7 p (by omega)] at ew
        have ed := e_doesN (p := p) (m := M) (by omega) (by rw [h6, hp])
        obtain ⟨m', M', e1, e2, f1, f2, f3⟩ := ih (k + 1) (jup m (hb + 8) p (tI (decide (M 119 p = nI 0)))) (jup M 119 p (tI (decide (M 119 p = nI 0)))) n n' (by omega) (by omega) (by omega) (by rw [jup_oc (by omega)]; exact h1) (by rw [jup_oc (by omega)]; exact h2) (by rw [jup_oc (by omega)]; exact h3) (fun k a c => by
          rw [jup_oc (c' := hb + 6) (by omega), jup_oc (c' := hb + 7) (by omega), jup_oc (c' := 111) (by omega), jup_oc (c' := 112) (by omega)]
          exact h4 k a c) (fun i hi => by rw [jup_oc (by omega), jup_oc (by omega)]; exact h5 i hi) (by rw [jup_oc (by omega), h6, hp, hd]) (fun j hj => by
          by_cases q : j = p
          · rw [q, jup_at, jup_at]
          · rw [jup_ok q, jup_ok q]; exact h7 j (by omega))
        refine ⟨m', M', ?_, ?_, fun c hc => by rw [f1 c hc, jup_oc hc], fun c j hc hj => by rw [f2 c j hc hj, jup_oc hc], f3⟩
        · rw [hd, show b + (k + 1) = b + k + 1 by omega] at e1
          unfold lp_H_holds_24
          rw [hp]
          simp (disch := omega) only [lits, ↓jld_nI l5, h2, leF, ↓reduceIte, ew, jbd_s, nI_add]
          exact e1
        · rw [show b + (k + 1) = b + k + 1 by omega] at e2
          unfold lp_M_holdsE_12
          simp only [lits, negs]
          rw [show sgnV 1025 = 260 from rfl] at k4
          simp (disch := omega) only [lits, negs, nI_add, nn1, leT, leF, ltT, ltF, eqF, mF1, mF2, mF3, mF4, mF5, mF6, mTT, eq_self, Nat.reduceEqDiff, ↓reduceIte, ↓jbd_s, ↓jpu_e, tI0, tI1, jgd_tI, jgd_bb, tfF, ftF, jup_at, jup_oc, jup_ok, ↓ld_115, h3, ↓ld_111, k3, ↓ld_112, k4, ↓jb ed]
          exact e2
      · -- what joins two
        have hbt : binT t := by unfold binT; omega
        have hge := ok2 (by rw [← hfk, k1, eqF q25 (by omega) (by omega)]; exact id) (by rw [← hfk, k1]; exact nI_le (by omega) (by omega))
        obtain ⟨p, hp⟩ : ∃ p, dpS f b k = p + 2 := ⟨dpS f b k - 2, by omega⟩
        have hd : dpS f b (k + 1) = p + 1 := by
          rw [dpS_s, ← hfk, k1, if_neg (by rw [eqF q25 (by omega) (by omega)]; exact id), if_pos (nI_le (by omega) (by omega)), hp]
          omega
        have ew := wo_bin (k := b + k) (p := p) hh (by omega) hbt k1 (by omega)
        rw [h7 p (by omega), h7 (p + 1) (by omega)] at ew
        have ed := e_does (p := p) (m := M) hbt (by omega) (by rw [h6, hp])
        obtain ⟨m', M', e1, e2, f1, f2, f3⟩ := ih (k + 1) (jup m (hb + 8) p (jnS t (M 119 p) (M 119 (p + 1)))) (jup (jup M 109 30 (nI (p + 1))) 119 p (jnS t (M 119 p) (M 119 (p + 1)))) n n' (by omega) (by omega) (by omega) (by rw [jup_oc (by omega)]; exact h1) (by rw [jup_oc (by omega)]; exact h2) (by rw [jup_oc (by omega), jup_oc (by omega)]; exact h3) (fun k a c => by
          rw [jup_oc (c' := hb + 6) (by omega), jup_oc (c' := hb + 7) (by omega), jup_oc (c' := 111) (by omega), jup_oc (c' := 111) (by omega), jup_oc (c' := 112) (by omega), jup_oc (c' := 112) (by omega)]
          exact h4 k a c) (fun i hi => by rw [jup_oc (by omega), jup_oc (by omega), jup_oc (by omega)]; exact h5 i hi) (by rw [jup_oc (by omega), jup_at, hd]) (fun j hj => by
          by_cases q : j = p
          · rw [q, jup_at, jup_at]
          · rw [jup_ok q, jup_ok q, jup_oc (by omega)]; exact h7 j (by omega))
        refine ⟨m', M', ?_, ?_, fun c hc => by rw [f1 c hc, jup_oc hc], fun c j hc hj => by rw [f2 c j hc hj, jup_oc hc, show ∀ (X : jMem) (x : Int32), jup X 109 30 x c j = X c j from fun X x => if_neg hj], f3⟩
        · rw [hd, show b + (k + 1) = b + k + 1 by omega] at e1
          unfold lp_H_holds_24
          rw [hp]
          simp (disch := omega) only [lits, ↓jld_nI l5, h2, leF, ↓reduceIte, ew, jbd_s, nI_add]
          exact e1
        · rw [show b + (k + 1) = b + k + 1 by omega] at e2
          unfold lp_M_holdsE_12
          simp only [lits, negs]
          simp (disch := omega) only [lits, negs, nI_add, nn1, leT, leF, ltT, ltF, eqF, mF1, mF2, mF3, mF4, mF5, mF6, mTT, eq_self, Nat.reduceEqDiff, ↓reduceIte, ↓jbd_s, ↓jpu_e, tI0, tI1, jgd_tI, jgd_bb, tfF, ftF, jup_at, jup_oc, jup_ok, ↓ld_115, h3, ↓ld_111, k3, ↓ld_112, k4, ↓jb ed]
          exact e2
theorem sim_holds {hb h H : Nat} {m M : jMem} (hh : hb = 3 ∨ hb = 12) (h8 : h < H) (hH : H ≤ 8) (hc : m hb 7 = nI H) (r : RXh2 m M hb h) (hf : ∀ i, i < 7 → m 28 i = M 118 i) : ∃ V m' M', f_H_holds hb (nI h) 28 m = some (tI V, m') ∧ f_M_holdsE (nI h) M = some (tI V, M') ∧ (∀ c, c ≠ hb + 8 → m' c = m c) ∧ (∀ c k, c ≠ 119 → ¬ (c = 109 ∧ k = 30) → M' c k = M c k) := by
  obtain ⟨l6, l7, l8, l4, l5, -⟩ := jhlen hh
  obtain ⟨-, -, b, e, r1, r2, r3, r4, r5, r6, r7, r8, r9⟩ := r
  obtain ⟨m', M', e1, e2, f1, f2, f3⟩ := sim_knots (kC := fun w6 m5 => if w6 = nI 1 then jld 1 m5 (hb + 8) (nI 0) fun x7 => if x7 = nI 0 then some (nI 0, m5) else some (nI 1, m5) else some (nI 0, m5)) (kM := fun m16 => jld 1 m16 119 (nI 0) fun x17 => if x17 = nI 0 then some (nI 0, m16) else some (nI 1, m16)) (f := m (hb + 6)) hh (by omega : h < 8) r1 r2 r8 (e - b) 0 m (jup M 109 30 (nI 0)) 5000 5000 (by omega) (by omega) (by omega) rfl r5 (by rw [jup_oc (by omega)]; exact r6) (fun k a c => by rw [jup_oc (by omega), jup_oc (by omega)]; exact r7 k a c) (fun i hi => by rw [jup_oc (by omega)]; exact hf i hi) jup_at (fun i hi => absurd hi (Nat.not_lt_zero i))
  rw [r9] at e1 f3
  refine ⟨!decide (M' 119 0 = nI 0), m', M', ?_, ?_, f1, fun c k hc hk => by rw [f2 c k hc hk, show jup M 109 30 (nI 0) c k = M c k from if_neg hk]⟩
  · unfold f_H_holds
    simp only [lits, negs]
    rw [if_neg (nI_nlt (a := h) (b := 0) (Nat.zero_le h) (by omega)), if_pos (by rw [hc]; exact nI_lt h8 (by omega)), jld_nI l4 (by omega) (by omega), r3]
    refine e1.trans ?_
    rw [if_pos rfl, jld_nI l8 (by omega) (by omega), f3 0 (by omega)]
    by_cases q : M' 119 0 = nI 0
    · rw [if_pos q, decide_eq_true q]; rfl
    · rw [if_neg q, decide_eq_false q]; rfl
  · unfold f_M_holdsE
    simp only [lits, negs]
    rw [jpu_e, ld_115 (by omega), jup_oc (by omega), r4]
    refine e2.trans ?_
    rw [ld_119 (by omega)]
    by_cases q : M' 119 0 = nI 0
    · rw [if_pos q, decide_eq_true q]; rfl
    · rw [if_neg q, decide_eq_false q]; rfl
