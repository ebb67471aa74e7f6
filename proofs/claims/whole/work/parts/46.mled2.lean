/-! the reference's tellings -/
theorem tI_ne1 {b : Bool} : (tI b = 0) = (b = false) := tI0 b
def thrV (g : Nat → Bool) (T : Nat → Int32) (acc x : Int32) : Int32 := if x = nM then acc else if g x.toNatClampNeg then acc else acc ||| ((nI 1 <<< (x &&& nI 31)) ||| T x.toNatClampNeg)
theorem thrV_m {g : Nat → Bool} {T : Nat → Int32} {acc : Int32} : thrV g T acc nM = acc := if_pos rfl
theorem thrV_j {g : Nat → Bool} {T : Nat → Int32} {acc : Int32} {j : Nat} (hj : j < 30) : thrV g T acc (nI j) = if g j then acc else acc ||| (sb j ||| T j) := by
  unfold thrV
  rw [if_neg (by rw [mF1 (by omega)]; exact id), nI_clamp (by omega)]
  rfl
theorem thrV_cong {g : Nat → Bool} {T T' : Nat → Int32} {acc x : Int32} {l : Nat} (hl : l ≤ 30) (hx : oI x l) (h : ∀ j, j < l → T j = T' j) : thrV g T acc x = thrV g T' acc x := by
  rcases hx with rfl | ⟨j, hj, rfl⟩
  · rw [thrV_m, thrV_m]
  · rw [thrV_j (by omega), thrV_j (by omega), h j hj]
theorem e_through {l : Nat} {x : Int32} {left : Bool} {bu : Nat → Bool} {m : jMem} (hl : l < 30) (hx : oI x l) (hb : ∀ j, j < l → m 129 j = tI (bu j)) : ∃ m', f_M_through (nI l) x (tI left) m = some ((), m') ∧ (∀ c, c ≠ 141 → m' c = m c) ∧ (∀ j, j ≠ l → m' 141 j = m 141 j) ∧ m' 141 l = thrV (fun j => left && bu j) (m 141) (m 141 l) x := by
  rcases hx with rfl | ⟨j, hj, rfl⟩
  · refine ⟨m, ?_, fun _ _ => rfl, fun _ _ => rfl, thrV_m.symm⟩
    unfold f_M_through
    simp (disch := omega) only [lits, negs, nI_add, nn1, leT, leF, ltT, ltF, eqF, mF1, mF2, mF3, mF4, mF5, mF6, mTT, eq_self, Nat.reduceEqDiff, ↓reduceIte, jbd_s, jpu_e, tI0, tI1, jgd_tI, jgd_bb, tfF, ftF, jup_at, jup_oc, jup_ok]
  · by_cases hg : (left && bu j) = true
    · refine ⟨m, ?_, fun _ _ => rfl, fun _ _ => rfl, by rw [thrV_j (by omega), if_pos hg]⟩
      have h1 : left = true := by cases left; exact absurd hg (by simp); rfl
      have h2 : bu j = true := by rw [h1] at hg; simpa using hg
      unfold f_M_through
      simp (disch := omega) only [lits, negs, nI_add, nn1, leT, leF, ltT, ltF, eqF, mF1, mF2, mF3, mF4, mF5, mF6, mTT, eq_self, Nat.reduceEqDiff, ↓reduceIte, jbd_s, jpu_e, tI0, tI1, jgd_tI, jgd_bb, tfF, ftF, jup_at, jup_oc, jup_ok, h1, tI_t, ld_129, hb, h2]
    · refine ⟨jup m 141 l (m 141 l ||| (sb j ||| m 141 j)), ?_, fun c hc => jup_oc hc, fun i hi => jup_ok hi, by rw [jup_at, thrV_j (by omega), if_neg hg]⟩
      unfold f_M_through
      cases hf : left
      · simp (disch := omega) only [lits, negs, nI_add, nn1, leT, leF, ltT, ltF, eqF, mF1, mF2, mF3, mF4, mF5, mF6, mTT, eq_self, Nat.reduceEqDiff, ↓reduceIte, jbd_s, jpu_e, tI0, tI1, jgd_tI, jgd_bb, tfF, ftF, jup_at, jup_oc, jup_ok, tI_f, ld_141, st_141, sb_e]
      · rw [hf] at hg
        have h2 : bu j = false := by cases q : bu j; rfl; rw [q] at hg; exact absurd rfl hg
        simp (disch := omega) only [lits, negs, nI_add, nn1, leT, leF, ltT, ltF, eqF, mF1, mF2, mF3, mF4, mF5, mF6, mTT, eq_self, Nat.reduceEqDiff, ↓reduceIte, jbd_s, jpu_e, tI0, tI1, jgd_tI, jgd_bb, tfF, ftF, jup_at, jup_oc, jup_ok, tI_t, ld_129, hb, h2, tI_f, ld_141, st_141, sb_e]
/-- what a letter is told to tell of, by answers -/
def ansF (g : Nat → Bool) (A B T : Nat → Int32) (l : Nat) : Int32 := if g l then nI 0 else thrV g T (thrV g T (nI 0) (A l)) (B l)
theorem ansF_cong {g : Nat → Bool} {A B T T' : Nat → Int32} {l : Nat} (hl : l ≤ 30) (ha : oI (A l) l) (hb : oI (B l) l) (h : ∀ j, j < l → T j = T' j) : ansF g A B T l = ansF g A B T' l := by
  unfold ansF
  rw [thrV_cong hl ha h, thrV_cong hl hb h]
theorem ansF_one {g : Nat → Bool} {A B T T' : Nat → Int32} {N : Nat} (hN : N ≤ 30) (ha : ∀ l, l < N → oI (A l) l ∧ oI (B l) l) (h : ∀ l, l < N → T l = ansF g A B T l) (h' : ∀ l, l < N → T' l = ansF g A B T' l) : ∀ n l, l < n → l < N → T l = T' l := by
  intro n
  induction n with
  | zero => intro l h0; exact absurd h0 (Nat.not_lt_zero l)
  | succ n ih =>
    intro l h0 h1
    rw [h l h1, h' l h1, ansF_cong (by omega) (ha l h1).1 (ha l h1).2 (fun j hj => ih j (by omega) (by omega))]
theorem lp_byA {N : Nat} {left : Bool} {bu : Nat → Bool} {A B : Nat → Int32} {k : jMem → Option (Unit × jMem)} (h30 : N ≤ 30) (ha : ∀ l, l < N → oI (A l) l ∧ oI (B l) l) : ∀ (d n i : Nat) (m : jMem), i + d = N → d < n → m 109 33 = nI N → m 125 = A → m 126 = B → (∀ j, j < N → m 129 j = tI (bu j)) → (∀ l, l < i → m 141 l = ansF (fun j => left && bu j) A B (m 141) l) → ∃ m', lp_M_byAnswers_2 (tI left) k n (nI i) m = k m' ∧ (∀ c, c ≠ 141 → m' c = m c) ∧ (∀ l, l < N → m' 141 l = ansF (fun j => left && bu j) A B (m' 141) l) := by
  intro d
  induction d with
  | zero =>
    intro n i m h hn hN hA hB hbu hI
    obtain ⟨n, rfl⟩ := ex_succ hn
    have e : i = N := by omega
    subst e
    refine ⟨m, ?_, fun _ _ => rfl, hI⟩
    unfold lp_M_byAnswers_2
    simp (disch := omega) only [lits, negs, nI_add, nn1, leT, leF, ltT, ltF, eqF, mF1, mF2, mF3, mF4, mF5, mF6, mTT, eq_self, Nat.reduceEqDiff, ↓reduceIte, jbd_s, jpu_e, tI0, tI1, jgd_tI, jgd_bb, tfF, ftF, jup_at, jup_oc, jup_ok, hN]
  | succ d ih =>
    intro n i m h hn hN hA hB hbu hI
    obtain ⟨n, rfl⟩ := ex_succ hn
    have hi : i < N := by omega
    obtain ⟨hx, hy⟩ := ha i hi
    by_cases hg : (left && bu i) = true
    · have h1 : left = true := by cases left; exact absurd hg (by simp); rfl
      have h2 : bu i = true := by rw [h1] at hg; simpa using hg
      obtain ⟨m', e, r1, r2⟩ := ih n (i + 1) (jup m 141 i (nI 0)) (by omega) (by omega) (by rw [jup_oc (by omega)]; exact hN) (by rw [jup_oc (by omega)]; exact hA) (by rw [jup_oc (by omega)]; exact hB) (fun j hj => by rw [jup_oc (by omega)]; exact hbu j hj) (fun l hl => by
        rcases Nat.lt_or_ge l i with q | q
        · rw [jup_ok (by omega), hI l q]
          exact ansF_cong (by omega) (ha l (by omega)).1 (ha l (by omega)).2 (fun j hj => by rw [jup_ok (by omega)])
        · have q2 : l = i := by omega
          subst q2
          rw [jup_at]
          unfold ansF
          rw [if_pos hg])
      refine ⟨m', ?_, fun c hc => by rw [r1 c hc, jup_oc hc], r2⟩
      unfold lp_M_byAnswers_2
      rw [h1] at e ⊢
      simp (disch := omega) only [lits, negs, nI_add, nn1, leT, leF, ltT, ltF, eqF, mF1, mF2, mF3, mF4, mF5, mF6, mTT, eq_self, Nat.reduceEqDiff, ↓reduceIte, jbd_s, jpu_e, tI0, tI1, jgd_tI, jgd_bb, tfF, ftF, jup_at, jup_oc, jup_ok, tI_t, hN, st_141, ld_129, hbu, h2] at e ⊢
      exact e
    · obtain ⟨m1, e1, f1, g1, v1⟩ := e_through (l := i) (x := A i) (left := left) (bu := bu) (m := jup m 141 i (nI 0)) (by omega) hx (fun j hj => by rw [jup_oc (by omega)]; exact hbu j (by omega))
      obtain ⟨m2, e2, f2, g2, v2⟩ := e_through (l := i) (x := B i) (left := left) (bu := bu) (m := m1) (by omega) hy (fun j hj => by rw [f1 129 (by omega), jup_oc (by omega)]; exact hbu j (by omega))
      have hrow : ∀ j, j ≠ i → m2 141 j = m 141 j := fun j hj => by rw [g2 j hj, g1 j hj, jup_ok hj]
      obtain ⟨m', e, r1, r2⟩ := ih n (i + 1) m2 (by omega) (by omega) (by rw [f2 _ (by omega), f1 _ (by omega), jup_oc (by omega)]; exact hN) (by rw [f2 _ (by omega), f1 _ (by omega), jup_oc (by omega)]; exact hA) (by rw [f2 _ (by omega), f1 _ (by omega), jup_oc (by omega)]; exact hB) (fun j hj => by rw [f2 _ (by omega), f1 _ (by omega), jup_oc (by omega)]; exact hbu j hj) (fun l hl => by
        rcases Nat.lt_or_ge l i with q | q
        · rw [hrow l (by omega), hI l q]
          exact ansF_cong (by omega) (ha l (by omega)).1 (ha l (by omega)).2 (fun j hj => by rw [hrow j (by omega)])
        · have q2 : l = i := by omega
          subst q2
          rw [v2, v1, jup_at]
          unfold ansF
          rw [if_neg hg]
          rw [thrV_cong (T := m1 141) (T' := m2 141) (by omega) hy (fun j hj => by rw [g2 j (by omega)])]
          rw [thrV_cong (T := jup m 141 l (nI 0) 141) (T' := m2 141) (by omega) hx (fun j hj => by rw [g2 j (by omega), g1 j (by omega)])])
      refine ⟨m', ?_, fun c hc => by rw [r1 c hc, f2 c hc, f1 c hc, jup_oc hc], r2⟩
      have hB1 : m1 126 = B := by rw [f1 _ (by omega), jup_oc (by omega)]; exact hB
      unfold lp_M_byAnswers_2
      simp (disch := omega) only [lits, negs, nI_add, nn1, leT, leF, ltT, ltF, eqF, mF1, mF2, mF3, mF4, mF5, mF6, mTT, eq_self, Nat.reduceEqDiff, ↓reduceIte, jbd_s, jpu_e, tI0, tI1, jgd_tI, jgd_bb, tfF, ftF, jup_at, jup_oc, jup_ok, hN, st_141]
      cases hf : left
      · rw [hf] at e1 e2 e
        simp (disch := omega) only [lits, negs, nI_add, nn1, leT, leF, ltT, ltF, eqF, mF1, mF2, mF3, mF4, mF5, mF6, mTT, eq_self, Nat.reduceEqDiff, ↓reduceIte, jbd_s, jpu_e, tI0, tI1, jgd_tI, jgd_bb, tfF, ftF, jup_at, jup_oc, jup_ok, hA, hB1, ld_125, ld_126, e1, e2]
        exact e
      · rw [hf] at e1 e2 e hg
        have h2 : bu i = false := by cases q : bu i; rfl; rw [q] at hg; exact absurd rfl hg
        simp (disch := omega) only [lits, negs, nI_add, nn1, leT, leF, ltT, ltF, eqF, mF1, mF2, mF3, mF4, mF5, mF6, mTT, eq_self, Nat.reduceEqDiff, ↓reduceIte, jbd_s, jpu_e, tI0, tI1, jgd_tI, jgd_bb, tfF, ftF, jup_at, jup_oc, jup_ok, hA, hB1, ld_125, ld_126, ld_129, hbu, h2, tI_f, e1, e2]
        exact e
theorem e_byA {N : Nat} {left : Bool} {bu : Nat → Bool} {m : jMem} (h30 : N ≤ 30) (hN : m 109 33 = nI N) (ha : ∀ l, l < N → oI (m 125 l) l ∧ oI (m 126 l) l) (hb : ∀ j, j < N → m 129 j = tI (bu j)) : ∃ m', f_M_byAnswers (tI left) m = some ((), m') ∧ (∀ c, c ≠ 141 → m' c = m c) ∧ (∀ l, l < N → m' 141 l = ansF (fun j => left && bu j) (m 125) (m 126) (m' 141) l) := by
  obtain ⟨m', e, r⟩ := lp_byA (k := fun m15 => some ((), m15)) (left := left) (bu := bu) h30 ha N 5000 0 m (by omega) (by omega) hN rfl rfl hb (fun l hl => absurd hl (Nat.not_lt_zero l))
  refine ⟨m', ?_, r⟩
  unfold f_M_byAnswers
  simp only [lits]
  exact e
/-! by lists -/
def lisF (P T : Nat → Int32) (l : Nat) : Int32 := (P l &&& (aO (bt (P l)) P l ^^^ nM)) ||| aO (bt (P l &&& (aO (bt (P l)) P l ^^^ nM))) T l
theorem lisF_cong {P T T' : Nat → Int32} {l : Nat} (h : ∀ j, j < l → T j = T' j) : lisF P T l = lisF P T' l := by
  unfold lisF
  rw [aO_cong (p := bt (P l &&& (aO (bt (P l)) P l ^^^ nM))) (fun _ _ => rfl) (fun j hj _ => h j hj)]
theorem lisF_one {P T T' : Nat → Int32} {N : Nat} (h : ∀ l, l < N → T l = lisF P T l) (h' : ∀ l, l < N → T' l = lisF P T' l) : ∀ n l, l < n → l < N → T l = T' l := by
  intro n
  induction n with
  | zero => intro l h0; exact absurd h0 (Nat.not_lt_zero l)
  | succ n ih =>
    intro l h0 h1
    rw [h l h1, h' l h1, lisF_cong (fun j hj => ih j (by omega) (by omega))]
theorem or_as (a b c : Int32) : (a ||| b) ||| c = a ||| (b ||| c) := b_ext fun j _ => by rw [b_or, b_or, b_or, b_or, Bool.or_assoc]
theorem or_n0 (a : Int32) : a ||| nI 0 = a := b_ext fun j _ => by rw [b_or, b_n0, Bool.or_false]
theorem lp_byL1 {l : Nat} {s : Int32} {T : Nat → Int32} {k : jMem → Option (Unit × jMem)} (hl : l < 30) : ∀ (d n i : Nat) (m : jMem), i + d = l → d < n → (∀ j, j < l → m 141 j = T j) → m 141 l = s ||| aO (bt s) T i → ∃ m', lp_M_byLists_25 (nI l) s k n (nI i) m = k m' ∧ (∀ c, c ≠ 141 → m' c = m c) ∧ (∀ j, j ≠ l → m' 141 j = m 141 j) ∧ m' 141 l = s ||| aO (bt s) T l := by
  intro d
  induction d with
  | zero =>
    intro n i m h hn h1 h2
    obtain ⟨n, rfl⟩ := ex_succ hn
    have e : i = l := by omega
    subst e
    refine ⟨m, ?_, fun _ _ => rfl, fun _ _ => rfl, h2⟩
    unfold lp_M_byLists_25
    simp (disch := omega) only [lits, negs, nI_add, nn1, leT, leF, ltT, ltF, eqF, mF1, mF2, mF3, mF4, mF5, mF6, mTT, eq_self, Nat.reduceEqDiff, ↓reduceIte, jbd_s, jpu_e, tI0, tI1, jgd_tI, jgd_bb, tfF, ftF, jup_at, jup_oc, jup_ok]
  | succ d ih =>
    intro n i m h hn h1 h2
    obtain ⟨n, rfl⟩ := ex_succ hn
    cases hp : bt s i
    · obtain ⟨m', e, r⟩ := ih n (i + 1) m (by omega) (by omega) h1 (by rw [h2, aO_succ, hp, if_neg (by decide)])
      refine ⟨m', ?_, r⟩
      unfold lp_M_byLists_25
      simp (disch := omega) only [lits, negs, nI_add, nn1, leT, leF, ltT, ltF, eqF, mF1, mF2, mF3, mF4, mF5, mF6, mTT, eq_self, Nat.reduceEqDiff, ↓reduceIte, jbd_s, jpu_e, tI0, tI1, jgd_tI, jgd_bb, tfF, ftF, jup_at, jup_oc, jup_ok, bit1, hp]
      exact e
    · obtain ⟨m', e, r1, r2, r3⟩ := ih n (i + 1) (jup m 141 l (m 141 l ||| m 141 i)) (by omega) (by omega) (fun j hj => by rw [jup_ok (by omega)]; exact h1 j hj) (by rw [jup_at, h2, h1 i (by omega), or_as, aO_succ, hp, if_pos rfl])
      refine ⟨m', ?_, fun c hc => by rw [r1 c hc, jup_oc hc], fun j hj => by rw [r2 j hj, jup_ok hj], r3⟩
      unfold lp_M_byLists_25
      simp (disch := omega) only [lits, negs, nI_add, nn1, leT, leF, ltT, ltF, eqF, mF1, mF2, mF3, mF4, mF5, mF6, mTT, eq_self, Nat.reduceEqDiff, ↓reduceIte, jbd_s, jpu_e, tI0, tI1, jgd_tI, jgd_bb, tfF, ftF, jup_at, jup_oc, jup_ok, bit1, hp, ld_141, st_141]
      exact e
theorem lp_byL2 {N : Nat} {P : Nat → Int32} {k : jMem → Option (Unit × jMem)} (h30 : N ≤ 30) : ∀ (d n i : Nat) (m : jMem), i + d = N → d < n → m 109 33 = nI N → m 128 = P → (∀ l, l < i → m 141 l = lisF P (m 141) l) → ∃ m', lp_M_byLists_2 k n (nI i) m = k m' ∧ (∀ c, c ≠ 141 → m' c = m c) ∧ (∀ l, l < N → m' 141 l = lisF P (m' 141) l) := by
  intro d
  induction d with
  | zero =>
    intro n i m h hn hN hP hI
    obtain ⟨n, rfl⟩ := ex_succ hn
    have e : i = N := by omega
    subst e
    refine ⟨m, ?_, fun _ _ => rfl, hI⟩
    unfold lp_M_byLists_2
    simp (disch := omega) only [lits, negs, nI_add, nn1, leT, leF, ltT, ltF, eqF, mF1, mF2, mF3, mF4, mF5, mF6, mTT, eq_self, Nat.reduceEqDiff, ↓reduceIte, jbd_s, jpu_e, tI0, tI1, jgd_tI, jgd_bb, tfF, ftF, jup_at, jup_oc, jup_ok, hN]
  | succ d ih =>
    intro n i m h hn hN hP hI
    obtain ⟨n, rfl⟩ := ex_succ hn
    obtain ⟨m1, e1, f1, g1, v1⟩ := lp_byL1 (l := i) (s := P i &&& (aO (bt (P i)) P i ^^^ nM)) (T := m 141) (k := fun m7 => lp_M_byLists_2 k n (nI (i + 1)) m7) (by omega) i 5000 0 (jup m 141 i (P i &&& (aO (bt (P i)) P i ^^^ nM))) (by omega) (by omega) (fun j hj => by rw [jup_ok (by omega)]) (by rw [jup_at]; exact (or_n0 _).symm)
    have hrow : ∀ j, j ≠ i → m1 141 j = m 141 j := fun j hj => by rw [g1 j hj, jup_ok hj]
    obtain ⟨m', e, r1, r2⟩ := ih n (i + 1) m1 (by omega) (by omega) (by rw [f1 _ (by omega), jup_oc (by omega)]; exact hN) (by rw [f1 _ (by omega), jup_oc (by omega)]; exact hP) (fun l hl => by
      rcases Nat.lt_or_ge l i with q | q
      · rw [hrow l (by omega), hI l q]
        exact lisF_cong (fun j hj => by rw [hrow j (by omega)])
      · have q2 : l = i := by omega
        subst q2
        rw [v1]
        exact lisF_cong (fun j hj => by rw [hrow j (by omega)]))
    refine ⟨m', ?_, fun c hc => by rw [r1 c hc, f1 c hc, jup_oc hc], r2⟩
    have hx := e_Mlist (l := i) (m := m) (by omega)
    rw [hP] at hx
    unfold lp_M_byLists_2
    simp (disch := omega) only [lits, negs, nI_add, nn1, leT, leF, ltT, ltF, eqF, mF1, mF2, mF3, mF4, mF5, mF6, mTT, eq_self, Nat.reduceEqDiff, ↓reduceIte, jbd_s, jpu_e, tI0, tI1, jgd_tI, jgd_bb, tfF, ftF, jup_at, jup_oc, jup_ok, hN, hx, st_141]
    rw [e1]
    exact e
theorem e_byL {N : Nat} {m : jMem} (h30 : N ≤ 30) (hN : m 109 33 = nI N) : ∃ m', f_M_byLists m = some ((), m') ∧ (∀ c, c ≠ 141 → m' c = m c) ∧ (∀ l, l < N → m' 141 l = lisF (m 128) (m' 141) l) := by
  obtain ⟨m', e, r⟩ := lp_byL2 (k := fun m8 => some ((), m8)) h30 N 5000 0 m (by omega) (by omega) hN rfl (fun l hl => absurd hl (Nat.not_lt_zero l))
  refine ⟨m', ?_, r⟩
  unfold f_M_byLists
  simp only [lits]
  exact e
