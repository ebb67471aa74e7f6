/-! the reference's words -/
def wI : List Nat := [6, 7, 8, 9, 10, 11, 12, 13, 14, 22, 23, 24, 15, 16, 17, 18, 19, 20, 21]
def wO : List Nat := [0, 5, 12, 18, 21, 26, 32, 38, 46, 51, 54, 58, 62, 67, 72, 76, 82, 86, 91, 96]
/-- the text of the k-th word, and how long it is -/
def wT (k : Nat) : Nat := jtkS (1001 + wI.getD k 0)
def wN (k : Nat) : Nat := jstN.getD (wT k - 2001) 0
theorem wd_1 : ∀ k, k < 19 → jsk (wT k) ∧ 1 ≤ wN k ∧ wN k < 8 ∧ wO.getD (k + 1) 0 = wO.getD k 0 + wN k + 1 ∧ wO.getD (k + 1) 0 ≤ 96 ∧ wI.getD k 0 < 33 ∧ jsc 2003 (nI (wO.getD k 0 + wN k)) = nI 32 := by decide +kernel
theorem wd_2 : ∀ k, k < 19 → ∀ j, j < wN k → jsc 2003 (nI (wO.getD k 0 + j)) = jsc (wT k) (nI j) ∧ ¬ jsc (wT k) (nI j) = nI 32 := by decide +kernel
theorem sc_W {ρ : Type} {o : Nat} {K : Int32 → Option ρ} (h : o < 96) : jSC 2003 (nI o) K = K (jsc 2003 (nI o)) := sc_nI (by decide) h
section WD
variable {B : Nat → Nat} {n p e : Nat} {M : jMem}
theorem lp_mw15 (hn4 : n ≤ 400) (hB : ∀ i, M 110 i = nI (B i) ∧ B i < 256) (hp : M 109 18 = nI p) (he : M 109 17 = nI e) (hpe : p ≤ e) (hen : e ≤ n) {k : Nat} {v1 : Int32} {k69 : Int32 → jMem → Option (Int32 × jMem)} (hk : k < 19) : ∀ (d g i : Nat), i + d = wN k → d < g → p + i ≤ e → (∀ j, j < i → jsc (wT k) (nI j) = nI (B (p + j))) → ∃ w, lp_M_word_15 v1 (nI (wO.getD k 0)) k69 g (nI i) M = k69 (nI w) M ∧ w ≤ wN k ∧ p + w ≤ e ∧ ((w = wN k ∧ p + w = e) ↔ spM (wT k) B p (e - p) = true) := by
  obtain ⟨d1, d2, d3, d4, d5, d6, d7⟩ := wd_1 k hk
  intro d
  induction d with
  | zero =>
    intro g i h1 h2 h3 h4
    obtain ⟨g, rfl⟩ := ex_succ h2
    refine ⟨i, ?_, by omega, h3, ?_⟩
    · rw [lp_M_word_15, nI_add, sc_W (by omega), show wO.getD k 0 + i = wO.getD k 0 + wN k by omega, d7]
      simp (disch := omega) only [lits, negs, nI_add, nn1, leT, leF, ltT, ltF, eqF, mF1, mF2, mF3, mF4, mF5, mF6, mTT, eq_self, Nat.reduceEqDiff, ↓reduceIte, jbd_s, jpu_e, tI0, tI1, jgd_tI, jgd_bb, tfF, ftF, jup_at, jup_oc, jup_ok]
    · rw [spM_iff]
      refine ⟨fun h => ⟨?_, fun j hj => h4 j (by omega)⟩, fun h => ?_⟩
      · show wN k = e - p
        omega
      · have : wN k = e - p := h.1
        omega
  | succ d ih =>
    intro g i h1 h2 h3 h4
    obtain ⟨g, rfl⟩ := ex_succ h2
    obtain ⟨c1, c2⟩ := wd_2 k hk i (by omega)
    obtain ⟨b1, b2⟩ := hB (p + i)
    by_cases q : p + i = e
    · refine ⟨i, ?_, by omega, h3, ?_⟩
      · rw [lp_M_word_15, nI_add, sc_W (by omega), c1]
        simp only [lits]
        rw [if_neg c2]
        simp (disch := omega) only [lits, negs, nI_add, nn1, leT, leF, ltT, ltF, eqF, mF1, mF2, mF3, mF4, mF5, mF6, mTT, eq_self, Nat.reduceEqDiff, ↓reduceIte, jbd_s, jpu_e, tI0, tI1, jgd_tI, jgd_bb, tfF, ftF, jup_at, jup_oc, jup_ok, hp, he, q]
      · rw [spM_iff]
        refine ⟨fun h => absurd h.1 (by omega), fun h => ?_⟩
        have : wN k = e - p := h.1
        omega
    · by_cases q2 : jsc (wT k) (nI i) = nI (B (p + i))
      · obtain ⟨w, w1, w2⟩ := ih g (i + 1) (by omega) (by omega) (by omega) (fun j hj => by
          by_cases z : j = i
          · rw [z]; exact q2
          · exact h4 j (by omega))
        refine ⟨w, ?_, w2⟩
        rw [← w1, lp_M_word_15, nI_add, sc_W (by omega), c1]
        simp only [lits]
        rw [if_neg c2]
        simp (disch := omega) only [lits, negs, nI_add, nn1, leT, leF, ltT, ltF, eqF, mF1, mF2, mF3, mF4, mF5, mF6, mTT, eq_self, Nat.reduceEqDiff, ↓reduceIte, jbd_s, jpu_e, tI0, tI1, jgd_tI, jgd_bb, tfF, ftF, jup_at, jup_oc, jup_ok, hp, he, ld_110, b1]
        rw [sc_W (by omega), c1, if_pos q2.symm]
      · refine ⟨i, ?_, by omega, h3, ?_⟩
        · rw [lp_M_word_15, nI_add, sc_W (by omega), c1]
          simp only [lits]
          rw [if_neg c2]
          simp (disch := omega) only [lits, negs, nI_add, nn1, leT, leF, ltT, ltF, eqF, mF1, mF2, mF3, mF4, mF5, mF6, mTT, eq_self, Nat.reduceEqDiff, ↓reduceIte, jbd_s, jpu_e, tI0, tI1, jgd_tI, jgd_bb, tfF, ftF, jup_at, jup_oc, jup_ok, hp, he, ld_110, b1]
          rw [sc_W (by omega), c1, if_neg (fun z => q2 z.symm)]
        · rw [spM_iff]
          refine ⟨fun h => absurd h.1 (by omega), fun h => ?_⟩
          have : wN k = e - p := h.1
          exact absurd (h.2 i (by omega)) q2
theorem lp_mw97 {k : Nat} {v1 : Int32} {k114 : Int32 → jMem → Option (Int32 × jMem)} (hk : k < 19) : ∀ (d g i : Nat), i + d = wN k → d < g → lp_M_word_97 v1 k114 g (nI (wO.getD k 0 + i)) M = k114 (nI (wO.getD k 0 + wN k)) M := by
  obtain ⟨d1, d2, d3, d4, d5, d6, d7⟩ := wd_1 k hk
  intro d
  induction d with
  | zero =>
    intro g i h1 h2
    obtain ⟨g, rfl⟩ := ex_succ h2
    rw [lp_M_word_97, sc_W (by omega), show wO.getD k 0 + i = wO.getD k 0 + wN k by omega, d7]
    simp (disch := omega) only [lits, negs, nI_add, nn1, leT, leF, ltT, ltF, eqF, mF1, mF2, mF3, mF4, mF5, mF6, mTT, eq_self, Nat.reduceEqDiff, ↓reduceIte, jbd_s, jpu_e, tI0, tI1, jgd_tI, jgd_bb, tfF, ftF, jup_at, jup_oc, jup_ok]
  | succ d ih =>
    intro g i h1 h2
    obtain ⟨g, rfl⟩ := ex_succ h2
    obtain ⟨c1, c2⟩ := wd_2 k hk i (by omega)
    have e1 := ih g (i + 1) (by omega) (by omega)
    rw [lp_M_word_97, sc_W (by omega), c1]
    simp only [lits]
    rw [if_neg c2, nI_add]
    exact e1
theorem lp_mw4 (hn4 : n ≤ 400) (hB : ∀ i, M 110 i = nI (B i) ∧ B i < 256) (hp : M 109 18 = nI p) (he : M 109 17 = nI e) (hpe : p ≤ e) (hen : e ≤ n) {k95 : Int32 → jMem → Option (Int32 × jMem)} {k123 : jMem → Option (Int32 × jMem)} : ∀ (d g k : Nat), k + d = 19 → d < g → (∃ t, t < 19 ∧ spM (wT t) B p (e - p) = true ∧ lp_M_word_4 k95 k123 g (nI k) (nI (wO.getD k 0)) M = k95 (nI t) M) ∨ ((∀ t, k ≤ t → t < 19 → spM (wT t) B p (e - p) = false) ∧ lp_M_word_4 k95 k123 g (nI k) (nI (wO.getD k 0)) M = k123 M) := by
  have hL : jstN.getD (2003 - 2001) 0 = 96 := by decide
  intro d
  induction d with
  | zero =>
    intro g k h1 h2
    obtain ⟨g, rfl⟩ := ex_succ h2
    refine Or.inr ⟨fun t h3 h4 => absurd h3 (by omega), ?_⟩
    rw [show k = 19 by omega, show wO.getD 19 0 = 96 from rfl, lp_M_word_4, sl_nI (by decide), hL]
    simp (disch := omega) only [lits, negs, nI_add, nn1, leT, leF, ltT, ltF, eqF, mF1, mF2, mF3, mF4, mF5, mF6, mTT, eq_self, Nat.reduceEqDiff, ↓reduceIte, jbd_s, jpu_e, tI0, tI1, jgd_tI, jgd_bb, tfF, ftF, jup_at, jup_oc, jup_ok]
  | succ d ih =>
    intro g k h1 h2
    obtain ⟨g, rfl⟩ := ex_succ h2
    obtain ⟨d1, d2, d3, d4, d5, d6, d7⟩ := wd_1 k (by omega)
    have e0 : ∀ b, spM (wT k) B p (e - p) = b → lp_M_word_4 k95 k123 (g + 1) (nI k) (nI (wO.getD k 0)) M = if b = true then k95 (nI k) M else lp_M_word_4 k95 k123 g (nI (k + 1)) (nI (wO.getD (k + 1) 0)) M := fun b hb => by
      have e97 := fun (K : Int32 → jMem → Option (Int32 × jMem)) => lp_mw97 (M := M) (k := k) (v1 := nI k) (k114 := K) (by omega) (wN k) 5000 0 (by omega) (by omega)
      rw [lp_M_word_4, sl_nI (by decide), hL]
      simp only [lits]
      rw [if_neg (nI_ge (by omega) (by omega))]
      obtain ⟨w, w1, w2, w3, w4⟩ := lp_mw15 (k := k) (v1 := nI k) (k69 := fun w6 m5 => jSC 2003 (nI (wO.getD k 0) + w6) fun x7 => if x7 = nI 32 then if ((m5 109 18) + w6) = (m5 109 17) then k95 (nI k) m5 else lp_M_word_97 (nI k) (fun w12 m11 => lp_M_word_4 k95 k123 g (nI k + nI 1) (w12 + nI 1) m11) 5000 (nI (wO.getD k 0)) m5 else lp_M_word_97 (nI k) (fun w10 m9 => lp_M_word_4 k95 k123 g (nI k + nI 1) (w10 + nI 1) m9) 5000 (nI (wO.getD k 0)) m5) hn4 hB hp he hpe hen (by omega) (wN k) 5000 0 (by omega) (by omega) (by omega) (fun j hj => absurd hj (by omega))
      refine w1.trans ?_
      show (jSC 2003 (nI (wO.getD k 0) + nI w) fun x7 => if x7 = nI 32 then if ((M 109 18) + nI w) = (M 109 17) then k95 (nI k) M else lp_M_word_97 (nI k) (fun w12 m11 => lp_M_word_4 k95 k123 g (nI k + nI 1) (w12 + nI 1) m11) 5000 (nI (wO.getD k 0)) M else lp_M_word_97 (nI k) (fun w10 m9 => lp_M_word_4 k95 k123 g (nI k + nI 1) (w10 + nI 1) m9) 5000 (nI (wO.getD k 0)) M) = _
      rw [nI_add, sc_W (by omega)]
      have e98 := e97 (fun w12 m11 => lp_M_word_4 k95 k123 g (nI k + nI 1) (w12 + nI 1) m11)
      rw [Nat.add_zero] at e98
      have e99 : lp_M_word_97 (nI k) (fun w12 m11 => lp_M_word_4 k95 k123 g (nI k + nI 1) (w12 + nI 1) m11) 5000 (nI (wO.getD k 0)) M = lp_M_word_4 k95 k123 g (nI (k + 1)) (nI (wO.getD (k + 1) 0)) M := by
        rw [e98, nI_add, nI_add, d4]
      by_cases q : w = wN k
      · rw [q, d7, if_pos rfl, hp, he, nI_add]
        by_cases q2 : p + wN k = e
        · rw [if_pos (by rw [q2])]
          have hb2 := w4.mp ⟨q, by omega⟩
          rw [← hb, hb2, if_pos rfl]
        · rw [if_neg (fun z => q2 (nI_ij (by omega) (by omega) z))]
          have hb2 : spM (wT k) B p (e - p) = false := bf_of (fun z => q2 (by have := w4.mpr z; omega))
          rw [← hb, hb2, if_neg Bool.false_ne_true]
          exact e99
      · obtain ⟨c1, c2⟩ := wd_2 k (by omega) w (by omega)
        rw [c1, if_neg c2]
        have hb2 : spM (wT k) B p (e - p) = false := bf_of (fun z => q (w4.mpr z).1)
        rw [← hb, hb2, if_neg Bool.false_ne_true]
        exact e99
    cases q : spM (wT k) B p (e - p)
    · have e2 := e0 _ q
      rw [if_neg Bool.false_ne_true] at e2
      rcases ih g (k + 1) (by omega) (by omega) with ⟨t, t1, t2, t3⟩ | ⟨t1, t2⟩
      · exact Or.inl ⟨t, t1, t2, e2.trans t3⟩
      · refine Or.inr ⟨fun t h3 h4 => ?_, e2.trans t2⟩
        by_cases z : t = k
        · rw [z]; exact q
        · exact t1 t (by omega) h4
    · have e2 := e0 _ q
      rw [if_pos rfl] at e2
      exact Or.inl ⟨k, by omega, q, e2⟩
theorem e_Mword (hn4 : n ≤ 400) (hB : ∀ i, M 110 i = nI (B i) ∧ B i < 256) (hp : M 109 18 = nI p) (he : M 109 17 = nI e) (hpe : p ≤ e) (hen : e ≤ n) : (∃ t, t < 19 ∧ spM (wT t) B p (e - p) = true ∧ f_M_word M = some (nI t, M)) ∨ ((∀ t, t < 19 → spM (wT t) B p (e - p) = false) ∧ f_M_word M = some (nM, M)) := by
  unfold f_M_word
  simp only [lits, negs]
  rcases lp_mw4 (k95 := fun w14 m13 => some (w14, m13)) (k123 := fun m15 => some (nM, m15)) hn4 hB hp he hpe hen 19 5000 0 (by omega) (by omega) with ⟨t, t1, t2, t3⟩ | ⟨t1, t2⟩
  · exact Or.inl ⟨t, t1, t2, t3⟩
  · exact Or.inr ⟨fun t ht => t1 t (by omega) ht, t2⟩
end WD
