/-! a set is laid out: its letters in their order, and what each needs -/
theorem ex_nth {X : Int32} {N : Nat} : ∃ g : Nat → Nat, ∀ k, k < fb_ct (bt X) N → g k < N ∧ bt X (g k) = true ∧ fb_ct (bt X) (g k) = k := by
  refine Classical.axiomOfChoice (r := fun k i => k < fb_ct (bt X) N → i < N ∧ bt X i = true ∧ fb_ct (bt X) i = k) fun k => ?_
  by_cases h : k < fb_ct (bt X) N
  · obtain ⟨i, hi⟩ := fb_ct_kth h
    exact ⟨i, fun _ => hi⟩
  · exact ⟨0, fun h2 => absurd h2 h⟩
/-- g numbers the letters of X below N -/
def nthS (g : Nat → Nat) (X : Int32) (N S : Nat) : Prop := S = fb_ct (bt X) N ∧ ∀ k, k < S → g k < N ∧ bt X (g k) = true ∧ fb_ct (bt X) (g k) = k
theorem nthS_inj {g : Nat → Nat} {X : Int32} {N S a b : Nat} (h : nthS g X N S) (ha : a < S) (hb : b < S) (e : g a = g b) : a = b := by
  have h1 := (h.2 a ha).2.2
  have h2 := (h.2 b hb).2.2
  rw [e] at h1
  exact h1.symm.trans h2
theorem nthS_of {g : Nat → Nat} {X : Int32} {N S l : Nat} (h : nthS g X N S) (hl : l < N) (hb : bt X l = true) : fb_ct (bt X) l < S ∧ g (fb_ct (bt X) l) = l := by
  have h1 : fb_ct (bt X) l < S := by
    rw [h.1]
    have := fb_ct_mono (bt X) (show l + 1 ≤ N from hl)
    rw [fb_ct_succ, hb, if_pos rfl] at this
    omega
  obtain ⟨a1, a2, a3⟩ := h.2 _ h1
  exact ⟨h1, fb_ct_kth_one a2 hb a3⟩
theorem lp_Cts29 {N : Nat} {X : Int32} {k : jMem → Option (Int32 × jMem)} (h30 : N ≤ 30) (h12 : fb_ct (bt X) N ≤ 12) : ∀ (d n i : Nat) (m : jMem), i + d = N → d < n → m 29 15 = nI N → m 89 6 = nI (fb_ct (bt X) i) → (∀ l, l < i → bt X l = true → m 92 (fb_ct (bt X) l) = nI l) → ∃ m', lp_O_takesSet_29 X k n (nI i) m = k m' ∧ (∀ c, c ≠ 92 → c ≠ 89 → m' c = m c) ∧ (∀ j, j ≠ 6 → m' 89 j = m 89 j) ∧ m' 89 6 = nI (fb_ct (bt X) N) ∧ ∀ l, l < N → bt X l = true → m' 92 (fb_ct (bt X) l) = nI l := by
  intro d
  induction d with
  | zero =>
    intro n i m hi hn h1 h2 h3
    obtain ⟨n, rfl⟩ := ex_succ hn
    have e : i = N := by omega
    subst e
    refine ⟨m, ?_, fun _ _ _ => rfl, fun _ _ => rfl, h2, h3⟩
    unfold lp_O_takesSet_29
    simp (disch := omega) only [lits, negs, nI_add, nn1, leT, leF, ltT, ltF, eqF, mF1, mF2, mF3, mF4, mF5, mF6, mTT, eq_self, Nat.reduceEqDiff, ↓reduceIte, jbd_s, jpu_e, tI0, tI1, jgd_tI, jgd_bb, tfF, ftF, jup_at, jup_oc, jup_ok, h1]
  | succ d ih =>
    intro n i m hi hn h1 h2 h3
    obtain ⟨n, rfl⟩ := ex_succ hn
    have hmono := fb_ct_mono (bt X) (show i + 1 ≤ N by omega)
    have hs := fb_ct_succ (bt X) i
    cases q : bt X i
    · rw [q, if_neg (by decide), Nat.add_zero] at hs
      obtain ⟨m', e, f1, f2, f3, f4⟩ := ih n (i + 1) m (by omega) (by omega) h1 (by rw [hs]; exact h2) (fun l hl hb => by
        by_cases ql : l = i
        · rw [ql, q] at hb; exact absurd hb (by decide)
        · exact h3 l (by omega) hb)
      refine ⟨m', ?_, f1, f2, f3, f4⟩
      rw [← e]
      conv => lhs; unfold lp_O_takesSet_29
      simp only [lits]
      simp (disch := omega) only [lits, negs, nI_add, nn1, leT, leF, ltT, ltF, eqF, mF1, mF2, mF3, mF4, mF5, mF6, mTT, eq_self, Nat.reduceEqDiff, ↓reduceIte, ↓jbd_s, ↓jpu_e, tI0, tI1, jgd_tI, jgd_bb, tfF, ftF, jup_at, jup_oc, jup_ok, h1, ↓jb (e_isIn (v := X) (m := m) (by omega : i < 30)), q]
    · rw [q, if_pos rfl] at hs
      obtain ⟨m', e, f1, f2, f3, f4⟩ := ih n (i + 1) (jup (jup m 92 (fb_ct (bt X) i) (nI i)) 89 6 (nI (fb_ct (bt X) i + 1))) (by omega) (by omega) (by rw [jup_oc (by omega), jup_oc (by omega)]; exact h1) (by rw [hs]; exact jup_at) (fun l hl hb => by
        rw [jup_oc (by omega)]
        by_cases ql : l = i
        · rw [ql, jup_at]
        · rw [jup_ok (fun z => ql (fb_ct_kth_one hb q z))]
          exact h3 l (by omega) hb)
      refine ⟨m', ?_, fun c a b => by rw [f1 c a b, jup_oc b, jup_oc a], fun j hj => by rw [f2 j hj, jup_ok hj, jup_oc (by omega)], f3, f4⟩
      rw [← e]
      conv => lhs; unfold lp_O_takesSet_29
      simp only [lits]
      simp (disch := omega) only [lits, negs, nI_add, nn1, leT, leF, ltT, ltF, eqF, mF1, mF2, mF3, mF4, mF5, mF6, mTT, eq_self, Nat.reduceEqDiff, ↓reduceIte, ↓jbd_s, ↓jpu_e, tI0, tI1, jgd_tI, jgd_bb, tfF, ftF, jup_at, jup_oc, jup_ok, h1, ↓jb (e_isIn (v := X) (m := m) (by omega : i < 30)), q, h2, ↓st_92]
theorem lp_Mla26 {N : Nat} {X : Int32} {k : jMem → Option (Int32 × jMem)} (h30 : N ≤ 30) (h12 : fb_ct (bt X) N ≤ 12) : ∀ (d n i : Nat) (m : jMem), i + d = N → d < n → m 109 33 = nI N → m 109 67 = nI (fb_ct (bt X) i) → (∀ l, l < i → bt X l = true → m 146 (fb_ct (bt X) l) = nI l) → ∃ m', lp_M_lay_26 X k n (nI i) m = k m' ∧ (∀ c, c ≠ 146 → c ≠ 109 → m' c = m c) ∧ (∀ j, j ≠ 67 → m' 109 j = m 109 j) ∧ m' 109 67 = nI (fb_ct (bt X) N) ∧ ∀ l, l < N → bt X l = true → m' 146 (fb_ct (bt X) l) = nI l := by
  intro d
  induction d with
  | zero =>
    intro n i m hi hn h1 h2 h3
    obtain ⟨n, rfl⟩ := ex_succ hn
    have e : i = N := by omega
    subst e
    refine ⟨m, ?_, fun _ _ _ => rfl, fun _ _ => rfl, h2, h3⟩
    unfold lp_M_lay_26
    simp (disch := omega) only [lits, negs, nI_add, nn1, leT, leF, ltT, ltF, eqF, mF1, mF2, mF3, mF4, mF5, mF6, mTT, eq_self, Nat.reduceEqDiff, ↓reduceIte, jbd_s, jpu_e, tI0, tI1, jgd_tI, jgd_bb, tfF, ftF, jup_at, jup_oc, jup_ok, h1]
  | succ d ih =>
    intro n i m hi hn h1 h2 h3
    obtain ⟨n, rfl⟩ := ex_succ hn
    have hmono := fb_ct_mono (bt X) (show i + 1 ≤ N by omega)
    have hs := fb_ct_succ (bt X) i
    cases q : bt X i
    · rw [q, if_neg (by decide), Nat.add_zero] at hs
      obtain ⟨m', e, f1, f2, f3, f4⟩ := ih n (i + 1) m (by omega) (by omega) h1 (by rw [hs]; exact h2) (fun l hl hb => by
        by_cases ql : l = i
        · rw [ql, q] at hb; exact absurd hb (by decide)
        · exact h3 l (by omega) hb)
      refine ⟨m', ?_, f1, f2, f3, f4⟩
      rw [← e]
      conv => lhs; unfold lp_M_lay_26
      simp only [lits]
      simp (disch := omega) only [lits, negs, nI_add, nn1, leT, leF, ltT, ltF, eqF, mF1, mF2, mF3, mF4, mF5, mF6, mTT, eq_self, Nat.reduceEqDiff, ↓reduceIte, ↓jbd_s, ↓jpu_e, tI0, tI1, jgd_tI, jgd_bb, tfF, ftF, jup_at, jup_oc, jup_ok, h1, bit0, q]
    · rw [q, if_pos rfl] at hs
      obtain ⟨m', e, f1, f2, f3, f4⟩ := ih n (i + 1) (jup (jup m 146 (fb_ct (bt X) i) (nI i)) 109 67 (nI (fb_ct (bt X) i + 1))) (by omega) (by omega) (by rw [jup_ok (by omega), jup_oc (by omega)]; exact h1) (by rw [hs]; exact jup_at) (fun l hl hb => by
        rw [jup_oc (by omega)]
        by_cases ql : l = i
        · rw [ql, jup_at]
        · rw [jup_ok (fun z => ql (fb_ct_kth_one hb q z))]
          exact h3 l (by omega) hb)
      refine ⟨m', ?_, fun c a b => by rw [f1 c a b, jup_oc b, jup_oc a], fun j hj => by rw [f2 j hj, jup_ok hj, jup_oc (by omega)], f3, f4⟩
      rw [← e]
      conv => lhs; unfold lp_M_lay_26
      simp only [lits]
      simp (disch := omega) only [lits, negs, nI_add, nn1, leT, leF, ltT, ltF, eqF, mF1, mF2, mF3, mF4, mF5, mF6, mTT, eq_self, Nat.reduceEqDiff, ↓reduceIte, ↓jbd_s, ↓jpu_e, tI0, tI1, jgd_tI, jgd_bb, tfF, ftF, jup_at, jup_oc, jup_ok, h1, bit0, q, h2, ↓st_146]
/-- the places of the letters of v -/
def plS (g : Nat → Nat) (S : Nat) (v : Int32) : Int32 := setS (fun b => bt v (g b)) S
theorem lp_places {S : Nat} {v : Int32} {g : Nat → Nat} {k : Int32 → jMem → Option (Int32 × jMem)} {m : jMem} (h12 : S ≤ 12) (hS : m 89 6 = nI S) (hg : ∀ b, b < S → m 92 b = nI (g b) ∧ g b < 30) : ∀ (d n i : Nat), i + d = S → d < n → lp_O_placesOf_4 v k n (setS (fun b => bt v (g b)) i) (nI i) m = k (plS g S v) m := by
  intro d
  induction d with
  | zero =>
    intro n i hid hdn
    obtain ⟨n, rfl⟩ := ex_succ hdn
    rw [show i = S by omega]
    unfold lp_O_placesOf_4
    simp (disch := omega) only [lits, negs, nI_add, nn1, leT, leF, ltT, ltF, eqF, mF1, mF2, mF3, mF4, mF5, mF6, mTT, eq_self, Nat.reduceEqDiff, ↓reduceIte, jbd_s, jpu_e, tI0, tI1, jgd_tI, jgd_bb, tfF, ftF, jup_at, jup_oc, jup_ok, hS, plS]
  | succ d ih =>
    intro n i hid hdn
    obtain ⟨n, rfl⟩ := ex_succ hdn
    have e := ih n (i + 1) (by omega) (by omega)
    unfold lp_O_placesOf_4
    rw [setS_succ] at e
    simp only [lits]
    cases q : bt v (g i)
    · rw [q, if_neg (by decide)] at e
      simp (disch := omega) only [lits, negs, nI_add, nn1, leT, leF, ltT, ltF, eqF, mF1, mF2, mF3, mF4, mF5, mF6, mTT, eq_self, Nat.reduceEqDiff, ↓reduceIte, ↓jbd_s, ↓jpu_e, tI0, tI1, jgd_tI, jgd_bb, tfF, ftF, jup_at, jup_oc, jup_ok, hS, ↓ld_92, (hg i (by omega)).1, ↓jb (e_isIn (v := v) (m := m) (hg i (by omega)).2), q]
      exact e
    · rw [q, if_pos rfl] at e
      simp (disch := omega) only [lits, negs, nI_add, nn1, leT, leF, ltT, ltF, eqF, mF1, mF2, mF3, mF4, mF5, mF6, mTT, eq_self, Nat.reduceEqDiff, ↓reduceIte, ↓jbd_s, ↓jpu_e, tI0, tI1, jgd_tI, jgd_bb, tfF, ftF, jup_at, jup_oc, jup_ok, hS, ↓ld_92, (hg i (by omega)).1, ↓jb (e_isIn (v := v) (m := m) (hg i (by omega)).2), q, ↓jb (e_bit (m := m) i)]
      exact e
theorem e_places {S : Nat} {v : Int32} {g : Nat → Nat} {m : jMem} (h12 : S ≤ 12) (hS : m 89 6 = nI S) (hg : ∀ b, b < S → m 92 b = nI (g b) ∧ g b < 30) : f_O_placesOf v m = some (plS g S v, m) := by
  unfold f_O_placesOf
  simp only [lits]
  exact lp_places h12 hS hg S 5000 0 (by omega) (by omega)
theorem b_pl {S j : Nat} {v : Int32} {g : Nat → Nat} (h12 : S ≤ 12) (hj : j < 32) : bt (plS g S v) j = (decide (j < S) && bt v (g j)) := b_setS hj (by omega)
theorem lp_Cts85 {S : Nat} {X : Int32} {g : Nat → Nat} {k : jMem → Option (Int32 × jMem)} (h12 : S ≤ 12) : ∀ (d n i : Nat) (m : jMem), i + d = S → d < n → m 89 6 = nI S → (∀ b, b < S → m 92 b = nI (g b) ∧ g b < 30) → (∀ a, a < i → m 93 a = plS g S (m 37 (g a))) → ∃ m', lp_O_takesSet_85 X k n (nI i) m = k m' ∧ (∀ c, c ≠ 93 → m' c = m c) ∧ ∀ a, a < S → m' 93 a = plS g S (m 37 (g a)) := by
  intro d
  induction d with
  | zero =>
    intro n i m hi hn hS hg h
    obtain ⟨n, rfl⟩ := ex_succ hn
    have e : i = S := by omega
    subst e
    refine ⟨m, ?_, fun _ _ => rfl, h⟩
    unfold lp_O_takesSet_85
    simp (disch := omega) only [lits, negs, nI_add, nn1, leT, leF, ltT, ltF, eqF, mF1, mF2, mF3, mF4, mF5, mF6, mTT, eq_self, Nat.reduceEqDiff, ↓reduceIte, jbd_s, jpu_e, tI0, tI1, jgd_tI, jgd_bb, tfF, ftF, jup_at, jup_oc, jup_ok, hS]
  | succ d ih =>
    intro n i m hi hn hS hg h
    obtain ⟨n, rfl⟩ := ex_succ hn
    obtain ⟨m', e, f1, f2⟩ := ih n (i + 1) (jup m 93 i (plS g S (m 37 (g i)))) (by omega) (by omega) (by rw [jup_oc (by omega)]; exact hS) (fun b hb => by rw [jup_oc (by omega)]; exact hg b hb) (fun a ha => by
      rw [jup_oc (by omega : 37 ≠ 93)]
      by_cases q : a = i
      · rw [q, jup_at]
      · rw [jup_ok q]; exact h a (by omega))
    refine ⟨m', ?_, fun c hc => by rw [f1 c hc, jup_oc hc], fun a ha => by rw [f2 a ha, jup_oc (by omega)]⟩
    rw [← e]
    conv => lhs; unfold lp_O_takesSet_85
    simp only [lits]
    have hgi := (hg i (by omega)).2
    simp (disch := omega) only [lits, negs, nI_add, nn1, leT, leF, ltT, ltF, eqF, mF1, mF2, mF3, mF4, mF5, mF6, mTT, eq_self, Nat.reduceEqDiff, ↓reduceIte, ↓jbd_s, ↓jpu_e, tI0, tI1, jgd_tI, jgd_bb, tfF, ftF, jup_at, jup_oc, jup_ok, hS, ↓ld_92, (hg i (by omega)).1, ↓ld_37, ↓jb (e_places (v := m 37 (g i)) h12 hS hg), ↓st_93]
