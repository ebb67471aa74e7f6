/-! the reference's least sums of ways -/
theorem fl1_at {k u v : Nat} {L : Nat → Nat → Nat} : fl1 k u L (v + 1) = fun a b => if a = u ∧ b = v then min (fl1 k u L v u v) (fl1 k u L v u k + fl1 k u L v k v) else fl1 k u L v a b := rfl
theorem fl1_le {k u : Nat} {L : Nat → Nat → Nat} (hL : ∀ a b, a < 6 → b < 6 → L a b ≤ 30) : ∀ v a b, a < 6 → b < 6 → fl1 k u L v a b ≤ 30
  | 0, a, b, ha, hb => hL a b ha hb
  | v + 1, a, b, ha, hb => by
    rw [fl1_at]
    show (if a = u ∧ b = v then _ else _) ≤ 30
    have ih := fl1_le (k := k) (u := u) hL v
    split
    · rename_i q
      have := ih u v (by omega) (by omega)
      omega
    · exact ih a b ha hb
theorem fl2_le {k : Nat} {L : Nat → Nat → Nat} (hL : ∀ a b, a < 6 → b < 6 → L a b ≤ 30) : ∀ u a b, a < 6 → b < 6 → fl2 k L u a b ≤ 30
  | 0, a, b, ha, hb => hL a b ha hb
  | u + 1, a, b, ha, hb => fl1_le (fl2_le hL u) 6 a b ha hb
theorem fl3_le {L : Nat → Nat → Nat} (hL : ∀ a b, a < 6 → b < 6 → L a b ≤ 30) : ∀ k a b, a < 6 → b < 6 → fl3 L k a b ≤ 30
  | 0, a, b, ha, hb => hL a b ha hb
  | k + 1, a, b, ha, hb => fl2_le (fl3_le hL k) 6 a b ha hb
theorem fl1_dg {k u : Nat} {L : Nat → Nat → Nat} (hL : ∀ a, a < 6 → L a a = 0) : ∀ v a, a < 6 → fl1 k u L v a a = 0
  | 0, a, ha => hL a ha
  | v + 1, a, ha => by
    rw [fl1_at]
    show (if a = u ∧ a = v then _ else _) = 0
    have ih := fl1_dg (k := k) (u := u) hL v
    split
    · rename_i q
      obtain ⟨q1, q2⟩ := q
      subst q1
      subst q2
      rw [ih a ha, Nat.zero_min]
    · exact ih a ha
theorem fl2_dg {k : Nat} {L : Nat → Nat → Nat} (hL : ∀ a, a < 6 → L a a = 0) : ∀ u a, a < 6 → fl2 k L u a a = 0
  | 0, a, ha => hL a ha
  | u + 1, a, ha => fl1_dg (fl2_dg hL u) 6 a ha
theorem fl3_dg {L : Nat → Nat → Nat} (hL : ∀ a, a < 6 → L a a = 0) : ∀ k a, a < 6 → fl3 L k a a = 0
  | 0, a, ha => hL a ha
  | k + 1, a, ha => fl2_dg (fl3_dg hL k) 6 a ha
def M143 (L : Nat → Nat → Nat) (m : jMem) : Prop := ∀ a, a < 6 → ∀ b, b < 6 → m 143 (6 * a + b) = nI (L a b)
theorem lp_Ms1 {kk u : Nat} {L : Nat → Nat → Nat} {k : jMem → Option (Unit × jMem)} (hk : kk < 6) (hu : u < 6) (hL : ∀ a b, a < 6 → b < 6 → L a b ≤ 30) : ∀ (d n i : Nat) (m : jMem), i + d = 6 → d < n → M143 (fl1 kk u L i) m → ∃ m', lp_M_sums_47 (nI kk) (nI u) k n (nI i) m = k m' ∧ (∀ c, c ≠ 143 → m' c = m c) ∧ M143 (fl1 kk u L 6) m' := by
  intro d
  induction d with
  | zero =>
    intro n i m h hn r
    obtain ⟨n, rfl⟩ := ex_succ hn
    have e : i = 6 := by omega
    subst e
    refine ⟨m, ?_, fun _ _ => rfl, r⟩
    unfold lp_M_sums_47
    simp (disch := omega) only [lits, negs, nI_add, nn1, leT, leF, ltT, ltF, eqF, mF1, mF2, mF3, mF4, mF5, mF6, mTT, eq_self, Nat.reduceEqDiff, ↓reduceIte, jbd_s, jpu_e, tI0, tI1, jgd_tI, jgd_bb, tfF, ftF, jup_at, jup_oc, jup_ok]
  | succ d ih =>
    intro n i m h hn r
    obtain ⟨n, rfl⟩ := ex_succ hn
    have l1 := fl1_le (k := kk) (u := u) hL i u i hu (by omega)
    have l2 := fl1_le (k := kk) (u := u) hL i u kk hu hk
    have l3 := fl1_le (k := kk) (u := u) hL i kk i hk (by omega)
    obtain ⟨m', e, f, g⟩ := ih n (i + 1) (jup m 143 (6 * u + i) (nI (min (fl1 kk u L i u i) (fl1 kk u L i u kk + fl1 kk u L i kk i)))) (by omega) (by omega) (by
      intro a ha b hb
      rw [fl1_at]
      show _ = nI (if a = u ∧ b = i then _ else _)
      by_cases q : a = u ∧ b = i
      · rw [if_pos q, q.1, q.2, jup_at]
      · rw [if_neg q, jup_ok (by omega)]
        exact r a ha b hb)
    refine ⟨m', ?_, fun c hc => by rw [f c hc, jup_oc hc], g⟩
    unfold lp_M_sums_47
    simp (disch := omega) only [lits, negs, nI_add, nn1, leT, leF, ltT, ltF, eqF, mF1, mF2, mF3, mF4, mF5, mF6, mTT, eq_self, Nat.reduceEqDiff, ↓reduceIte, jbd_s, jpu_e, tI0, tI1, jgd_tI, jgd_bb, tfF, ftF, jup_at, jup_oc, jup_ok, pk_mul, ld_143, st_143, r u hu i (by omega), r u hu kk hk, r kk hk i (by omega), jmin_nI]
    exact e
theorem lp_Ms2 {kk : Nat} {L : Nat → Nat → Nat} {k : jMem → Option (Unit × jMem)} (hk : kk < 6) (hL : ∀ a b, a < 6 → b < 6 → L a b ≤ 30) : ∀ (d n i : Nat) (m : jMem), i + d = 6 → d < n → M143 (fl2 kk L i) m → ∃ m', lp_M_sums_39 (nI kk) k n (nI i) m = k m' ∧ (∀ c, c ≠ 143 → m' c = m c) ∧ M143 (fl2 kk L 6) m' := by
  intro d
  induction d with
  | zero =>
    intro n i m h hn r
    obtain ⟨n, rfl⟩ := ex_succ hn
    have e : i = 6 := by omega
    subst e
    refine ⟨m, ?_, fun _ _ => rfl, r⟩
    unfold lp_M_sums_39
    simp (disch := omega) only [lits, negs, nI_add, nn1, leT, leF, ltT, ltF, eqF, mF1, mF2, mF3, mF4, mF5, mF6, mTT, eq_self, Nat.reduceEqDiff, ↓reduceIte, jbd_s, jpu_e, tI0, tI1, jgd_tI, jgd_bb, tfF, ftF, jup_at, jup_oc, jup_ok]
  | succ d ih =>
    intro n i m h hn r
    obtain ⟨n, rfl⟩ := ex_succ hn
    obtain ⟨m1, e1, f1, g1⟩ := lp_Ms1 (kk := kk) (u := i) (L := fl2 kk L i) (k := fun m8 => lp_M_sums_39 (nI kk) k n (nI (i + 1)) m8) hk (by omega) (fl2_le hL i) 6 5000 0 m (by omega) (by omega) r
    obtain ⟨m', e, f, g⟩ := ih n (i + 1) m1 (by omega) (by omega) g1
    refine ⟨m', ?_, fun c hc => by rw [f c hc, f1 c hc], g⟩
    unfold lp_M_sums_39
    simp (disch := omega) only [lits, negs, nI_add, nn1, leT, leF, ltT, ltF, eqF, mF1, mF2, mF3, mF4, mF5, mF6, mTT, eq_self, Nat.reduceEqDiff, ↓reduceIte, jbd_s, jpu_e, tI0, tI1, jgd_tI, jgd_bb, tfF, ftF, jup_at, jup_oc, jup_ok]
    exact e1.trans e
theorem lp_Ms3 {L : Nat → Nat → Nat} {k : jMem → Option (Unit × jMem)} (hL : ∀ a b, a < 6 → b < 6 → L a b ≤ 30) : ∀ (d n i : Nat) (m : jMem), i + d = 6 → d < n → M143 (fl3 L i) m → ∃ m', lp_M_sums_31 k n (nI i) m = k m' ∧ (∀ c, c ≠ 143 → m' c = m c) ∧ M143 (fl3 L 6) m' := by
  intro d
  induction d with
  | zero =>
    intro n i m h hn r
    obtain ⟨n, rfl⟩ := ex_succ hn
    have e : i = 6 := by omega
    subst e
    refine ⟨m, ?_, fun _ _ => rfl, r⟩
    unfold lp_M_sums_31
    simp (disch := omega) only [lits, negs, nI_add, nn1, leT, leF, ltT, ltF, eqF, mF1, mF2, mF3, mF4, mF5, mF6, mTT, eq_self, Nat.reduceEqDiff, ↓reduceIte, jbd_s, jpu_e, tI0, tI1, jgd_tI, jgd_bb, tfF, ftF, jup_at, jup_oc, jup_ok]
  | succ d ih =>
    intro n i m h hn r
    obtain ⟨n, rfl⟩ := ex_succ hn
    obtain ⟨m1, e1, f1, g1⟩ := lp_Ms2 (kk := i) (L := fl3 L i) (k := fun m8 => lp_M_sums_31 k n (nI (i + 1)) m8) (by omega) (fl3_le hL i) 6 5000 0 m (by omega) (by omega) r
    obtain ⟨m', e, f, g⟩ := ih n (i + 1) m1 (by omega) (by omega) g1
    refine ⟨m', ?_, fun c hc => by rw [f c hc, f1 c hc], g⟩
    unfold lp_M_sums_31
    simp (disch := omega) only [lits, negs, nI_add, nn1, leT, leF, ltT, ltF, eqF, mF1, mF2, mF3, mF4, mF5, mF6, mTT, eq_self, Nat.reduceEqDiff, ↓reduceIte, jbd_s, jpu_e, tI0, tI1, jgd_tI, jgd_bb, tfF, ftF, jup_at, jup_oc, jup_ok]
    exact e1.trans e
theorem lp_Ms0 {k : jMem → Option (Unit × jMem)} : ∀ (d n i : Nat) (m : jMem), i + d = 36 → d < n → (∀ j, j < i → m 143 j = m 120 j) → ∃ m', lp_M_sums_2 k n (nI i) m = k m' ∧ (∀ c, c ≠ 143 → m' c = m c) ∧ (∀ j, j < 36 → m' 143 j = m' 120 j) := by
  intro d
  induction d with
  | zero =>
    intro n i m h hn r
    obtain ⟨n, rfl⟩ := ex_succ hn
    have e : i = 36 := by omega
    subst e
    refine ⟨m, ?_, fun _ _ => rfl, r⟩
    unfold lp_M_sums_2
    simp (disch := omega) only [lits, negs, nI_add, nn1, leT, leF, ltT, ltF, eqF, mF1, mF2, mF3, mF4, mF5, mF6, mTT, eq_self, Nat.reduceEqDiff, ↓reduceIte, jbd_s, jpu_e, tI0, tI1, jgd_tI, jgd_bb, tfF, ftF, jup_at, jup_oc, jup_ok]
  | succ d ih =>
    intro n i m h hn r
    obtain ⟨n, rfl⟩ := ex_succ hn
    obtain ⟨m', e, f, g⟩ := ih n (i + 1) (jup m 143 i (m 120 i)) (by omega) (by omega) (fun j hj => by
      rw [jup_oc (c' := 120) (by omega)]
      by_cases q : j = i
      · rw [q, jup_at]
      · rw [jup_ok q, r j (by omega)])
    refine ⟨m', ?_, fun c hc => by rw [f c hc, jup_oc hc], g⟩
    unfold lp_M_sums_2
    simp (disch := omega) only [lits, negs, nI_add, nn1, leT, leF, ltT, ltF, eqF, mF1, mF2, mF3, mF4, mF5, mF6, mTT, eq_self, Nat.reduceEqDiff, ↓reduceIte, jbd_s, jpu_e, tI0, tI1, jgd_tI, jgd_bb, tfF, ftF, jup_at, jup_oc, jup_ok, ld_120, st_143]
    exact e
theorem e_Msums {W : Nat → Nat → Nat} {m : jMem} (hW : ∀ a, a < 6 → ∀ b, b < 6 → W a b ≤ 30 ∧ m 120 (6 * a + b) = nI (W a b)) : ∃ m', f_M_sums m = some ((), m') ∧ (∀ c, c ≠ 143 → m' c = m c) ∧ M143 (fl3 W 6) m' := by
  obtain ⟨m1, e1, f1, g1⟩ := lp_Ms0 (k := fun m3 => lp_M_sums_31 (fun m10 => some ((), m10)) 5000 (nI 0) m3) 36 5000 0 m (by omega) (by omega) (fun j hj => absurd hj (Nat.not_lt_zero j))
  obtain ⟨m2, e2, f2, g2⟩ := lp_Ms3 (L := W) (k := fun m10 => some ((), m10)) (fun a b ha hb => (hW a ha b hb).1) 6 5000 0 m1 (by omega) (by omega) (fun a ha b hb => by
    rw [g1 _ (by omega), f1 120 (by omega)]
    exact (hW a ha b hb).2)
  refine ⟨m2, ?_, fun c hc => by rw [f2 c hc, f1 c hc], g2⟩
  unfold f_M_sums
  simp only [lits]
  exact e1.trans e2
/-! could -/
theorem e_isLeft {N a : Nat} {m : jMem} (hN : m 29 15 = nI N) (h30 : N ≤ 30) (ha : a < N) : f_L_isLeft (nI a) m = some (tI (bt (m 29 16) a), m) := by
  unfold f_L_isLeft
  simp (disch := omega) only [lits, negs, nI_add, nn1, leT, leF, ltT, ltF, eqF, mF1, mF2, mF3, mF4, mF5, mF6, mTT, eq_self, Nat.reduceEqDiff, ↓reduceIte, jbd_s, jpu_e, tI0, tI1, jgd_tI, jgd_bb, tfF, ftF, jup_at, jup_oc, jup_ok, e_isLetter hN h30, e_isIn]
  cases bt (m 29 16) a <;> rfl
theorem e_isLeft_no {N : Nat} {x : Int32} {m : jMem} (hN : m 29 15 = nI N) (hx : x < nI 0 ∨ nI N ≤ x) : f_L_isLeft x m = some (nI 0, m) := by
  unfold f_L_isLeft
  simp (disch := omega) only [lits, negs, nI_add, nn1, leT, leF, ltT, ltF, eqF, mF1, mF2, mF3, mF4, mF5, mF6, mTT, eq_self, Nat.reduceEqDiff, ↓reduceIte, jbd_s, jpu_e, tI0, tI1, jgd_tI, jgd_bb, tfF, ftF, jup_at, jup_oc, jup_ok, e_isLetter_no hN hx]
/-- who is met from b on down to l, through those left -/
def rcS (A B : Nat → Int32) (lf : Int32) (b : Nat) : Nat → Int32
  | 0 => sb b
  | d + 1 => if bt (rcS A B lf b d) (b - d) then rcS A B lf b d ||| (ansS (A (b - d)) (B (b - d)) &&& lf) else rcS A B lf b d
theorem rcS_succ (A B : Nat → Int32) (lf : Int32) (b d : Nat) : rcS A B lf b (d + 1) = if bt (rcS A B lf b d) (b - d) then rcS A B lf b d ||| (ansS (A (b - d)) (B (b - d)) &&& lf) else rcS A B lf b d := rfl
theorem lp_cites {N a b : Nat} {k : Int32 → jMem → Option (Int32 × jMem)} {m : jMem} (h30 : N ≤ 30) (hb : b < N) : ∀ (d n i : Nat), i + d = b - a → a ≤ b → d < n → lp_L_citesThroughLeft_8 (nI a) k n (rcS (m 34) (m 35) (m 29 16) b i) (nI (b - i)) m = k (rcS (m 34) (m 35) (m 29 16) b (b - a)) m := by
  intro d
  induction d with
  | zero =>
    intro n i h ha hn
    obtain ⟨n, rfl⟩ := ex_succ hn
    have e : i = b - a := by omega
    subst e
    unfold lp_L_citesThroughLeft_8
    simp (disch := omega) only [lits, negs, nI_add, nn1, leT, leF, ltT, ltF, eqF, mF1, mF2, mF3, mF4, mF5, mF6, mTT, eq_self, Nat.reduceEqDiff, ↓reduceIte, jbd_s, jpu_e, tI0, tI1, jgd_tI, jgd_bb, tfF, ftF, jup_at, jup_oc, jup_ok]
  | succ d ih =>
    intro n i h ha hn
    obtain ⟨n, rfl⟩ := ex_succ hn
    have e := ih n (i + 1) (by omega) ha (by omega)
    rw [rcS_succ] at e
    have e1 : nI (b - i) + nM = nI (b - (i + 1)) := by
      have h2 : b - i = (b - (i + 1)) + 1 := by omega
      rw [h2]
      exact pk_m1 _
    unfold lp_L_citesThroughLeft_8
    cases hp : bt (rcS (m 34) (m 35) (m 29 16) b i) (b - i)
    · rw [hp] at e
      simp (disch := omega) only [lits, negs, nI_add, nn1, leT, leF, ltT, ltF, eqF, mF1, mF2, mF3, mF4, mF5, mF6, mTT, eq_self, Nat.reduceEqDiff, ↓reduceIte, jbd_s, jpu_e, tI0, tI1, jgd_tI, jgd_bb, tfF, ftF, jup_at, jup_oc, jup_ok, e_isIn, hp, e1]
      exact e
    · rw [hp] at e
      simp (disch := omega) only [lits, negs, nI_add, nn1, leT, leF, ltT, ltF, eqF, mF1, mF2, mF3, mF4, mF5, mF6, mTT, eq_self, Nat.reduceEqDiff, ↓reduceIte, jbd_s, jpu_e, tI0, tI1, jgd_tI, jgd_bb, tfF, ftF, jup_at, jup_oc, jup_ok, e_isIn, hp, e1, e_answered]
      exact e
theorem rc_told {A B T : Nat → Int32} {lf : Int32} {N a b : Nat} {bu : Nat → Bool} (h30 : N ≤ 30) (hb : b < N) (hab : a ≠ b) (ho : ∀ l, l < N → oI (A l) l ∧ oI (B l) l) (hbu : ∀ l, l < N → bu l = !bt lf l) (hbl : bt lf b = true) (hT : ∀ l, l < N → T l = ansF (fun j => true && bu j) A B T l) (hTb : ∀ l, l < N → ∀ j, bt (T l) j = true → j < l) : ∀ d, d ≤ b - a → a ≤ b → ((bt (T b) a = true) ↔ (bt (rcS A B lf b d) a = true ∨ ∃ x, x ≤ b - d ∧ bt (rcS A B lf b d) x = true ∧ bt (T x) a = true)) ∧ (∀ x, bt (rcS A B lf b d) x = true → bt lf x = true ∧ x ≤ b) := by
  intro d
  induction d with
  | zero =>
    intro _ hle
    unfold rcS
    refine ⟨⟨fun h => Or.inr ⟨b, by omega, by rw [b_sb (by omega) (by omega), decide_eq_true rfl], h⟩, fun h => ?_⟩, fun x hx => ?_⟩
    · rcases h with h | ⟨x, -, h1, h2⟩
      · rw [b_sb (by omega) (by omega), decide_eq_false hab] at h; exact absurd h (by decide)
      · rw [b_sb (by omega) (bt_big h1), decide_eq_true_iff] at h1
        rw [h1] at h2; exact h2
    · rw [b_sb (by omega) (bt_big hx), decide_eq_true_iff] at hx
      rw [hx]; exact ⟨hbl, Nat.le_refl _⟩
  | succ d ih =>
    intro hd hle
    obtain ⟨ih1, ih2⟩ := ih (by omega) hle
    rw [rcS_succ]
    generalize hR : rcS A B lf b d = R at ih1 ih2 ⊢
    cases hp : bt R (b - d)
    · rw [if_neg (by decide)]
      refine ⟨ih1.trans (or_congr Iff.rfl ⟨fun ⟨x, h1, h2, h3⟩ => ⟨x, ?_, h2, h3⟩, fun ⟨x, h1, h2, h3⟩ => ⟨x, by omega, h2, h3⟩⟩), ih2⟩
      by_cases e : x = b - d
      · rw [e, hp] at h2; exact absurd h2 (by decide)
      · omega
    · rw [if_pos rfl]
      have hlN : b - d < N := by omega
      obtain ⟨o1, o2⟩ := ho (b - d) hlN
      have hS : ∀ i, i < 32 → (bt (ansS (A (b - d)) (B (b - d)) &&& lf) i = true ↔ (A (b - d) = nI i ∨ B (b - d) = nI i) ∧ bt lf i = true) := fun i hi => by
        rw [b_and, Bool.and_eq_true, b_ansS (by omega) o1 o2 hi, Bool.or_eq_true, decide_eq_true_iff, decide_eq_true_iff]
      have hmem : ∀ i, i < 32 → (A (b - d) = nI i ∨ B (b - d) = nI i) → i < b - d := fun i hi h => by
        rcases h with h | h
        · exact oI_lt (by omega) o1 hi h
        · exact oI_lt (by omega) o2 hi h
      have hleft := (ih2 (b - d) hp).1
      have hbud : (true && bu (b - d)) = false := by rw [hbu _ hlN, hleft]; rfl
      -- what T tells of b - d
      have hTd : bt (T (b - d)) a = true ↔ ∃ i, i < b - d ∧ (A (b - d) = nI i ∨ B (b - d) = nI i) ∧ bt lf i = true ∧ (a = i ∨ bt (T i) a = true) := by
        rw [hT (b - d) hlN]
        unfold ansF
        rw [if_neg (by show ¬ (true && bu (b - d)) = true; rw [hbud]; decide), b_thr (by omega) o2 (by omega), b_thr (by omega) o1 (by omega), b_n0]
        constructor
        · rintro ((h | ⟨i, h1, h2, h3, h4⟩) | ⟨i, h1, h2, h3, h4⟩)
          · exact absurd h (by decide)
          · exact ⟨i, h1, Or.inl h2, by rw [Bool.true_and, hbu _ (by omega)] at h3; simpa using h3, h4⟩
          · exact ⟨i, h1, Or.inr h2, by rw [Bool.true_and, hbu _ (by omega)] at h3; simpa using h3, h4⟩
        · rintro ⟨i, h1, h2 | h2, h3, h4⟩
          · exact Or.inl (Or.inr ⟨i, h1, h2, by rw [Bool.true_and, hbu _ (by omega), h3]; rfl, h4⟩)
          · exact Or.inr ⟨i, h1, h2, by rw [Bool.true_and, hbu _ (by omega), h3]; rfl, h4⟩
      refine ⟨ih1.trans ⟨?_, ?_⟩, fun x hx => ?_⟩
      · rintro (h | ⟨x, h1, h2, h3⟩)
        · exact Or.inl (by rw [b_or, h]; rfl)
        · by_cases e : x = b - d
          · rw [e] at h3
            obtain ⟨i, g1, g2, g3, g4⟩ := hTd.mp h3
            have hi : bt (R ||| (ansS (A (b - d)) (B (b - d)) &&& lf)) i = true := by
              rw [b_or, (hS i (by omega)).mpr ⟨g2, g3⟩, Bool.or_true]
            rcases g4 with g4 | g4
            · exact Or.inl (by rw [g4]; exact hi)
            · exact Or.inr ⟨i, by clear hTd ih1 ih2 ih; omega, hi, g4⟩
          · exact Or.inr ⟨x, by clear hTd ih1 ih2 ih; omega, by rw [b_or, h2]; rfl, h3⟩
      · rintro (h | ⟨x, h1, h2, h3⟩)
        · rw [b_or, Bool.or_eq_true] at h
          rcases h with h | h
          · exact Or.inl h
          · obtain ⟨g1, g2⟩ := (hS a (by omega)).mp h
            exact Or.inr ⟨b - d, by omega, hp, hTd.mpr ⟨a, hmem a (by omega) g1, g1, g2, Or.inl rfl⟩⟩
        · rw [b_or, Bool.or_eq_true] at h2
          rcases h2 with h2 | h2
          · exact Or.inr ⟨x, by omega, h2, h3⟩
          · obtain ⟨g1, g2⟩ := (hS x (by omega)).mp h2
            exact Or.inr ⟨b - d, by omega, hp, hTd.mpr ⟨x, hmem x (by omega) g1, g1, g2, Or.inr h3⟩⟩
      · rw [b_or, Bool.or_eq_true] at hx
        rcases hx with hx | hx
        · exact ih2 x hx
        · have hx32 := bt_big hx
          obtain ⟨g1, g2⟩ := (hS x hx32).mp hx
          have := hmem x hx32 g1
          exact ⟨g2, by omega⟩
theorem ansF_bits {A B T : Nat → Int32} {N : Nat} {g : Nat → Bool} (h30 : N ≤ 30) (ho : ∀ l, l < N → oI (A l) l ∧ oI (B l) l) (hT : ∀ l, l < N → T l = ansF g A B T l) : ∀ k l, l < k → l < N → ∀ j, bt (T l) j = true → j < l := by
  intro k
  induction k with
  | zero => intro l h; exact absurd h (Nat.not_lt_zero l)
  | succ k ih =>
    intro l h1 h2 j hj
    have hj32 := bt_big hj
    obtain ⟨o1, o2⟩ := ho l h2
    rw [hT l h2] at hj
    unfold ansF at hj
    split at hj
    · rw [b_n0] at hj; exact absurd hj (by decide)
    · rw [b_thr (by omega) o2 hj32, b_thr (by omega) o1 hj32, b_n0] at hj
      rcases hj with (hj | ⟨i, g1, g2, g3, g4⟩) | ⟨i, g1, g2, g3, g4⟩
      · exact absurd hj (by decide)
      · rcases g4 with g4 | g4
        · omega
        · have := ih i (by omega) (by omega) j g4; omega
      · rcases g4 with g4 | g4
        · omega
        · have := ih i (by omega) (by omega) j g4; omega
theorem e_cites {N a b : Nat} {T : Nat → Int32} {m : jMem} (rl : RL N m) (ha : a < N) (hb : b < N) (hab : a ≠ b) (hbl : bt (m 29 16) b = true) {bu : Nat → Bool} (hbu : ∀ l, l < N → bu l = !bt (m 29 16) l) (hT : ∀ l, l < N → T l = ansF (fun j => true && bu j) (m 34) (m 35) T l) : f_L_citesThroughLeft (nI b) (nI a) m = some (tI (bt (T b) a), m) := by
  have h30 := rl.1
  have hTb := ansF_bits h30 (fun l hl => RL_oI rl l hl) hT
  unfold f_L_citesThroughLeft
  simp (disch := omega) only [lits, negs, nI_add, nn1, leT, leF, ltT, ltF, eqF, mF1, mF2, mF3, mF4, mF5, mF6, mTT, eq_self, Nat.reduceEqDiff, ↓reduceIte, jbd_s, jpu_e, tI0, tI1, jgd_tI, jgd_bb, tfF, ftF, jup_at, jup_oc, jup_ok, e_bit]
  rcases Nat.lt_or_ge b a with q | q
  · have e1 : lp_L_citesThroughLeft_8 (nI a) (fun w8 m7 => jbd (f_C_isIn w8 (nI a) m7) fun x9 m10 => jgd (x9 = nI 0 ∨ x9 = nI 1) (some (x9, m10))) 5000 (sb b) (nI b) m = some (nI 0, m) := by
      unfold lp_L_citesThroughLeft_8
      simp (disch := omega) only [lits, negs, nI_add, nn1, leT, leF, ltT, ltF, eqF, mF1, mF2, mF3, mF4, mF5, mF6, mTT, eq_self, Nat.reduceEqDiff, ↓reduceIte, jbd_s, jpu_e, tI0, tI1, jgd_tI, jgd_bb, tfF, ftF, jup_at, jup_oc, jup_ok, e_isIn, b_sb, decide_eq_false hab, tI_f]
      rw [jgd_T (Or.inl trivial)]
    have e2 : bt (T b) a = false := by
      cases r : bt (T b) a
      · rfl
      · have := hTb (b + 1) b (by omega) hb a r; omega
    rw [e2]
    exact e1
  · have e1 := lp_cites (a := a) (k := fun w8 m7 => jbd (f_C_isIn w8 (nI a) m7) fun x9 m10 => jgd (x9 = nI 0 ∨ x9 = nI 1) (some (x9, m10))) (m := m) h30 hb (b - a) 5000 0 (by omega) q (by omega)
    rw [show rcS (m 34) (m 35) (m 29 16) b 0 = sb b from rfl, Nat.sub_zero] at e1
    rw [e1]
    have key := (rc_told h30 hb hab (fun l hl => RL_oI rl l hl) hbu hbl hT (fun l hl => hTb (l + 1) l (by omega) hl) (b - a) (Nat.le_refl _) q).1
    have e3 : bt (T b) a = bt (rcS (m 34) (m 35) (m 29 16) b (b - a)) a := by
      rw [Bool.eq_iff_iff]
      refine key.trans ⟨fun h => ?_, Or.inl⟩
      rcases h with h | ⟨x, h1, h2, h3⟩
      · exact h
      · have := hTb (x + 1) x (by omega) (by omega) a h3; omega
    rw [e3]
    simp (disch := omega) only [lits, negs, nI_add, nn1, leT, leF, ltT, ltF, eqF, mF1, mF2, mF3, mF4, mF5, mF6, mTT, eq_self, Nat.reduceEqDiff, ↓reduceIte, jbd_s, jpu_e, tI0, tI1, jgd_tI, jgd_bb, tfF, ftF, jup_at, jup_oc, jup_ok, e_isIn]
