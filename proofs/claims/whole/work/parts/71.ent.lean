/-! a letter is written: both sides -/
def adFacts (m m' : jMem) (N w d : Nat) (kd to one oth K : Int32) : Prop :=
  m' 30 = upd (m 30) N (nI w) ∧ m' 31 = upd (m 31) N (nI d) ∧ m' 32 = upd (m 32) N kd ∧ m' 33 = upd (m 33) N to ∧ m' 34 = upd (m 34) N one ∧ m' 35 = upd (m 35) N oth ∧ m' 36 = upd (m 36) N K ∧
  m' 37 = upd (m 37) N (nwP m N K) ∧ m' 38 = upd (m 38) N (nwQ m N one oth) ∧ m' 39 = upd (m 39) N (nwE m N K) ∧ m' 40 = upd (m 40) N (nwT m N K) ∧ m' 41 = upd (m 41) N (nI (nwS m N K)) ∧
  m' 42 = upd (m 42) w (m 42 w ||| sb N) ∧ (∀ v, v < 6 → m' 43 v = if bt to v = true then m 43 v ||| sb N else m 43 v) ∧ m' 29 16 = m 29 16 ||| sb N ∧ m' 29 15 = nI (N + 1)
theorem adM_facts {m : jMem} {N w d : Nat} {kd to one oth K : Int32} : adFacts m (adM m N w d kd to one oth K) N w d kd to one oth K := by
  unfold adFacts adM adC adB adA
  refine ⟨by simp (disch := omega) only [lits, negs, nI_add, nn1, leT, leF, ltT, ltF, eqF, mF1, mF2, mF3, mF4, mF5, mF6, mTT, eq_self, Nat.reduceEqDiff, ↓reduceIte, jbd_s, jpu_e, tI0, tI1, jgd_tI, jgd_bb, tfF, ftF, jup_at, jup_oc, jup_ok, addS_oc, jup_row], by simp (disch := omega) only [lits, negs, nI_add, nn1, leT, leF, ltT, ltF, eqF, mF1, mF2, mF3, mF4, mF5, mF6, mTT, eq_self, Nat.reduceEqDiff, ↓reduceIte, jbd_s, jpu_e, tI0, tI1, jgd_tI, jgd_bb, tfF, ftF, jup_at, jup_oc, jup_ok, addS_oc, jup_row], by simp (disch := omega) only [lits, negs, nI_add, nn1, leT, leF, ltT, ltF, eqF, mF1, mF2, mF3, mF4, mF5, mF6, mTT, eq_self, Nat.reduceEqDiff, ↓reduceIte, jbd_s, jpu_e, tI0, tI1, jgd_tI, jgd_bb, tfF, ftF, jup_at, jup_oc, jup_ok, addS_oc, jup_row], by simp (disch := omega) only [lits, negs, nI_add, nn1, leT, leF, ltT, ltF, eqF, mF1, mF2, mF3, mF4, mF5, mF6, mTT, eq_self, Nat.reduceEqDiff, ↓reduceIte, jbd_s, jpu_e, tI0, tI1, jgd_tI, jgd_bb, tfF, ftF, jup_at, jup_oc, jup_ok, addS_oc, jup_row], by simp (disch := omega) only [lits, negs, nI_add, nn1, leT, leF, ltT, ltF, eqF, mF1, mF2, mF3, mF4, mF5, mF6, mTT, eq_self, Nat.reduceEqDiff, ↓reduceIte, jbd_s, jpu_e, tI0, tI1, jgd_tI, jgd_bb, tfF, ftF, jup_at, jup_oc, jup_ok, addS_oc, jup_row], by simp (disch := omega) only [lits, negs, nI_add, nn1, leT, leF, ltT, ltF, eqF, mF1, mF2, mF3, mF4, mF5, mF6, mTT, eq_self, Nat.reduceEqDiff, ↓reduceIte, jbd_s, jpu_e, tI0, tI1, jgd_tI, jgd_bb, tfF, ftF, jup_at, jup_oc, jup_ok, addS_oc, jup_row], by simp (disch := omega) only [lits, negs, nI_add, nn1, leT, leF, ltT, ltF, eqF, mF1, mF2, mF3, mF4, mF5, mF6, mTT, eq_self, Nat.reduceEqDiff, ↓reduceIte, jbd_s, jpu_e, tI0, tI1, jgd_tI, jgd_bb, tfF, ftF, jup_at, jup_oc, jup_ok, addS_oc, jup_row], by simp (disch := omega) only [lits, negs, nI_add, nn1, leT, leF, ltT, ltF, eqF, mF1, mF2, mF3, mF4, mF5, mF6, mTT, eq_self, Nat.reduceEqDiff, ↓reduceIte, jbd_s, jpu_e, tI0, tI1, jgd_tI, jgd_bb, tfF, ftF, jup_at, jup_oc, jup_ok, addS_oc, jup_row], by simp (disch := omega) only [lits, negs, nI_add, nn1, leT, leF, ltT, ltF, eqF, mF1, mF2, mF3, mF4, mF5, mF6, mTT, eq_self, Nat.reduceEqDiff, ↓reduceIte, jbd_s, jpu_e, tI0, tI1, jgd_tI, jgd_bb, tfF, ftF, jup_at, jup_oc, jup_ok, addS_oc, jup_row], by simp (disch := omega) only [lits, negs, nI_add, nn1, leT, leF, ltT, ltF, eqF, mF1, mF2, mF3, mF4, mF5, mF6, mTT, eq_self, Nat.reduceEqDiff, ↓reduceIte, jbd_s, jpu_e, tI0, tI1, jgd_tI, jgd_bb, tfF, ftF, jup_at, jup_oc, jup_ok, addS_oc, jup_row], by simp (disch := omega) only [lits, negs, nI_add, nn1, leT, leF, ltT, ltF, eqF, mF1, mF2, mF3, mF4, mF5, mF6, mTT, eq_self, Nat.reduceEqDiff, ↓reduceIte, jbd_s, jpu_e, tI0, tI1, jgd_tI, jgd_bb, tfF, ftF, jup_at, jup_oc, jup_ok, addS_oc, jup_row], by simp (disch := omega) only [lits, negs, nI_add, nn1, leT, leF, ltT, ltF, eqF, mF1, mF2, mF3, mF4, mF5, mF6, mTT, eq_self, Nat.reduceEqDiff, ↓reduceIte, jbd_s, jpu_e, tI0, tI1, jgd_tI, jgd_bb, tfF, ftF, jup_at, jup_oc, jup_ok, addS_oc, jup_row], by simp (disch := omega) only [lits, negs, nI_add, nn1, leT, leF, ltT, ltF, eqF, mF1, mF2, mF3, mF4, mF5, mF6, mTT, eq_self, Nat.reduceEqDiff, ↓reduceIte, jbd_s, jpu_e, tI0, tI1, jgd_tI, jgd_bb, tfF, ftF, jup_at, jup_oc, jup_ok, addS_oc, jup_row], fun v hv => ?_, by simp (disch := omega) only [lits, negs, nI_add, nn1, leT, leF, ltT, ltF, eqF, mF1, mF2, mF3, mF4, mF5, mF6, mTT, eq_self, Nat.reduceEqDiff, ↓reduceIte, jbd_s, jpu_e, tI0, tI1, jgd_tI, jgd_bb, tfF, ftF, jup_at, jup_oc, jup_ok], by simp (disch := omega) only [lits, negs, nI_add, nn1, leT, leF, ltT, ltF, eqF, mF1, mF2, mF3, mF4, mF5, mF6, mTT, eq_self, Nat.reduceEqDiff, ↓reduceIte, jbd_s, jpu_e, tI0, tI1, jgd_tI, jgd_bb, tfF, ftF, jup_at, jup_oc, jup_ok]⟩
  rw [jup_oc (by omega), jup_oc (by omega), addS_at (by omega) hv]
  have e : (6 - 6 ≤ v ∧ bt to v = true) ↔ bt to v = true := ⟨fun h => h.2, fun h => ⟨by omega, h⟩⟩
  simp only [e]
  simp (disch := omega) only [lits, negs, nI_add, nn1, leT, leF, ltT, ltF, eqF, mF1, mF2, mF3, mF4, mF5, mF6, mTT, eq_self, Nat.reduceEqDiff, ↓reduceIte, jbd_s, jpu_e, tI0, tI1, jgd_tI, jgd_bb, tfF, ftF, jup_at, jup_oc, jup_ok]
theorem adM_oth {m : jMem} {N w d : Nat} {kd to one oth K : Int32} (c k : Nat) (hc : c < 29 ∨ 43 < c) : adM m N w d kd to one oth K c k = m c k := by
  unfold adM adC adB adA
  simp (disch := omega) only [lits, negs, nI_add, nn1, leT, leF, ltT, ltF, eqF, mF1, mF2, mF3, mF4, mF5, mF6, mTT, eq_self, Nat.reduceEqDiff, ↓reduceIte, jbd_s, jpu_e, tI0, tI1, jgd_tI, jgd_bb, tfF, ftF, jup_at, jup_oc, jup_ok, addS_oc]
theorem up_at {f : Nat → Int32} {k : Nat} {v : Int32} : upd f k v k = v := pk_us
theorem up_ne {f : Nat → Int32} {k j : Nat} {v : Int32} (h : j ≠ k) : upd f k v j = f j := pk_un h
theorem RLl_up {m m' : jMem} {N l : Nat} (h : ∀ c, 30 ≤ c → c ≤ 41 → ∀ x, x < N → m' c x = m c x) (hl : l < N) (r : RLl m l) : RLl m' l := by
  obtain ⟨a1, a2, a3, a4, a5, a6, a7, a8, a9, a10, a11, a12, a13, a14, s, a15, a16, a17⟩ := r
  have g : ∀ c, 30 ≤ c → c ≤ 41 → m' c l = m c l := fun c c1 c2 => h c c1 c2 l hl
  have ga : ∀ (p : Nat → Bool) c, 30 ≤ c → c ≤ 41 → aO p (m' c) l = aO p (m c) l := fun p c c1 c2 => aO_cong (fun _ _ => rfl) (fun x hx _ => h c c1 c2 x (by omega))
  unfold RLl
  rw [g 30 (by omega) (by omega), g 31 (by omega) (by omega), g 32 (by omega) (by omega), g 33 (by omega) (by omega), g 34 (by omega) (by omega), g 35 (by omega) (by omega), g 36 (by omega) (by omega), g 37 (by omega) (by omega), g 38 (by omega) (by omega), g 39 (by omega) (by omega), g 40 (by omega) (by omega), g 41 (by omega) (by omega), ga _ 37 (by omega) (by omega), ga _ 37 (by omega) (by omega), ga _ 38 (by omega) (by omega), ga _ 40 (by omega) (by omega)]
  refine ⟨a1, a2, a3, a4, a5, a6, a7, a8, a9, a10, a11, a12, a13, a14, s, a15, a16, ?_⟩
  rw [a17]
  congr 1
  exact mxS_cong (fun _ _ => rfl) (fun x hx _ => by rw [h 41 (by omega) (by omega) x (by omega)])
theorem RL2_past {N : Nat} {m M : jMem} (r : RL2 N m M) : ∀ k l, l < k → l < N → ∀ j, bt (m 37 l) j = true → j < l := by
  intro k
  induction k with
  | zero => intro l h; exact absurd h (Nat.not_lt_zero l)
  | succ k ih =>
    intro l hl hN j hj
    obtain ⟨-, -, -, -, -, -, -, -, -, h1, h2, -⟩ := r.2.2.2.2.1 l hN
    rw [h2, b_or, Bool.or_eq_true, b_aO] at hj
    rcases hj with hj | ⟨x, hx, hx2, hx3⟩
    · exact h1 j hj
    · have := ih x (by omega) (by omega) j hx3
      omega
theorem RL2_sum {N : Nat} {m M : jMem} (r : RL2 N m M) (l : Nat) (hl : l < N) : m 41 l = nI (sumV m l) ∧ sumV m l ≤ l + 1 ∧ sumV m l = 1 + mxS (bt (m 37 l)) (sumV m) l := by
  obtain ⟨-, -, -, -, -, -, -, -, -, -, -, -, -, -, s, h1, h2, h3⟩ := r.2.2.2.2.1 l hl
  have h30 := r.1
  have e : sumV m l = s := by unfold sumV; rw [h2, nI_clamp (by omega)]
  rw [e]
  exact ⟨h2, by omega, h3⟩
/-- what a letter may be -/
def mayL (m : jMem) (N w : Nat) (kd to one oth K : Int32) : Prop :=
  N < 30 ∧ w < 6 ∧ (∃ k, k ≤ 2 ∧ kd = nI k) ∧ bt to w = false ∧ (∀ j, bt to j = true → j < 6) ∧ oI one N ∧ oI oth N ∧ (one = nM → oth = nM) ∧ (oth ≠ nM → oth ≠ one) ∧ (kd = nI 2 → one ≠ nM) ∧ (∀ j, bt K j = true → j < N)
theorem oI_up {x : Int32} {n k : Nat} (h : oI x n) (hk : n ≤ k) : oI x k := by
  rcases h with h | ⟨j, hj, h⟩
  · exact Or.inl h
  · exact Or.inr ⟨j, by omega, h⟩
theorem RL2_add {m m' M M' : jMem} {N w d : Nat} {kd to one oth K : Int32} (r : RL2 N m M) (hm : mayL m N w kd to one oth K) (hd : d ≤ 999) (f : adFacts m m' N w d kd to one oth K) (hM : M' 109 33 = nI (N + 1)) (hr : M' 121 = m' 30 ∧ M' 122 = m' 31 ∧ M' 123 = m' 32 ∧ M' 124 = m' 33 ∧ M' 125 = m' 34 ∧ M' 126 = m' 35 ∧ M' 127 = m' 36 ∧ M' 128 = m' 37) : RL2 (N + 1) m' M' := by
  obtain ⟨h30, hw, hk, hto, hto6, ho1, ho2, ho3, ho4, ho5, hK⟩ := hm
  have r' := r
  obtain ⟨-, r1, r2, -, r4, r5, r6⟩ := r'
  obtain ⟨f30, f31, f32, f33, f34, f35, f36, f37, f38, f39, f40, f41, f42, f43, f16, f15⟩ := f
  have hlow : ∀ c, 30 ≤ c → c ≤ 41 → ∀ x, x < N → m' c x = m c x := fun c c1 c2 x hx => by
    have hx' : x ≠ N := by omega
    rcases (by omega : c = 30 ∨ c = 31 ∨ c = 32 ∨ c = 33 ∨ c = 34 ∨ c = 35 ∨ c = 36 ∨ c = 37 ∨ c = 38 ∨ c = 39 ∨ c = 40 ∨ c = 41) with rfl | rfl | rfl | rfl | rfl | rfl | rfl | rfl | rfl | rfl | rfl | rfl
    · rw [f30, up_ne hx']
    · rw [f31, up_ne hx']
    · rw [f32, up_ne hx']
    · rw [f33, up_ne hx']
    · rw [f34, up_ne hx']
    · rw [f35, up_ne hx']
    · rw [f36, up_ne hx']
    · rw [f37, up_ne hx']
    · rw [f38, up_ne hx']
    · rw [f39, up_ne hx']
    · rw [f40, up_ne hx']
    · rw [f41, up_ne hx']
  have haO : ∀ (p : Nat → Bool) c, 30 ≤ c → c ≤ 41 → aO p (m' c) N = aO p (m c) N := fun p c c1 c2 => aO_cong (fun _ _ => rfl) (fun x hx _ => hlow c c1 c2 x hx)
  refine ⟨by omega, f15, hM, hr, fun l hl => ?_, fun v hv j => ?_, fun v hv j => ?_⟩
  · rcases Nat.lt_or_ge l N with q | q
    · exact RLl_up hlow q (r4 l q)
    · have e : l = N := by omega
      subst e
      unfold RLl
      rw [haO _ 37 (by omega) (by omega), haO _ 37 (by omega) (by omega), haO _ 38 (by omega) (by omega), haO _ 40 (by omega) (by omega)]
      rw [show m' 30 l = nI w by rw [f30, up_at], show m' 31 l = nI d by rw [f31, up_at], show m' 32 l = kd by rw [f32, up_at], show m' 33 l = to by rw [f33, up_at], show m' 34 l = one by rw [f34, up_at], show m' 35 l = oth by rw [f35, up_at], show m' 36 l = K by rw [f36, up_at], show m' 37 l = nwP m l K by rw [f37, up_at], show m' 38 l = nwQ m l one oth by rw [f38, up_at], show m' 39 l = nwE m l K by rw [f39, up_at], show m' 40 l = nwT m l K by rw [f40, up_at], show m' 41 l = nI (nwS m l K) by rw [f41, up_at]]
      refine ⟨⟨w, hw, rfl⟩, ⟨d, hd, rfl⟩, hk, fun v hv e => ?_, ho1, ho2, ho3, ho4, ho5, hK, rfl, rfl, rfl, rfl, nwS m l K, ?_, rfl, ?_⟩
      · have e2 := (nI_eq (by omega) (by omega)).mp e
        rw [← e2]; exact hto
      · unfold nwS
        have := mxS_le (p := bt (nwP m l K)) (f := sumV m) (n := l) (B := l) (fun x hx => by have := (RL2_sum r x hx).2.1; omega)
        omega
      · unfold nwS
        congr 1
        exact mxS_cong (fun _ _ => rfl) (fun x hx _ => by
          unfold sumV
          rw [f41, up_ne (by omega)])
  · rw [f42, f30]
    by_cases q : v = w
    · subst q
      rw [up_at, b_or, Bool.or_eq_true]
      constructor
      · intro h
        rcases h with h | h
        · have h1 := (r5 v hv j).mp h
          exact ⟨by omega, by rw [up_ne (by omega)]; exact h1.2⟩
        · rw [b_sb (by omega) (bt_big h), decide_eq_true_iff] at h
          rw [h, up_at]
          exact ⟨by omega, rfl⟩
      · intro ⟨h1, h2⟩
        by_cases e : j = N
        · refine Or.inr ?_
          rw [e, b_sb (by omega) (by omega), decide_eq_true rfl]
        · rw [up_ne e] at h2
          exact Or.inl ((r5 v hv j).mpr ⟨by omega, h2⟩)
    · rw [up_ne q]
      constructor
      · intro h
        have h1 := (r5 v hv j).mp h
        exact ⟨by omega, by rw [up_ne (by omega)]; exact h1.2⟩
      · intro ⟨h1, h2⟩
        by_cases e : j = N
        · rw [e, up_at] at h2
          have := (nI_eq (by omega) (by omega)).mp h2
          omega
        · rw [up_ne e] at h2
          exact (r5 v hv j).mpr ⟨by omega, h2⟩
  · rw [f43 v hv, f33]
    cases hq : bt to v
    · rw [if_neg (by decide)]
      constructor
      · intro h
        have h1 := (r6 v hv j).mp h
        exact ⟨by omega, by rw [up_ne (by omega)]; exact h1.2⟩
      · intro ⟨h1, h2⟩
        by_cases e : j = N
        · rw [e, up_at, hq] at h2; exact absurd h2 (by decide)
        · rw [up_ne e] at h2
          exact (r6 v hv j).mpr ⟨by omega, h2⟩
    · rw [if_pos rfl, b_or, Bool.or_eq_true]
      constructor
      · intro h
        rcases h with h | h
        · have h1 := (r6 v hv j).mp h
          exact ⟨by omega, by rw [up_ne (by omega)]; exact h1.2⟩
        · rw [b_sb (by omega) (bt_big h), decide_eq_true_iff] at h
          rw [h, up_at]
          exact ⟨by omega, hq⟩
      · intro ⟨h1, h2⟩
        by_cases e : j = N
        · refine Or.inr ?_
          rw [e, b_sb (by omega) (by omega), decide_eq_true rfl]
        · rw [up_ne e] at h2
          exact Or.inl ((r6 v hv j).mpr ⟨by omega, h2⟩)
theorem pcnt_add {x : Int32} {l : Nat} (hl : l < 32) (h : bt x l = false) : pcnt (x ||| sb l) = pcnt x + 1 := by
  unfold pcnt
  have h1 := fb_ct_upd (bt x) true (i := l) (n := 32) hl
  rw [h, if_neg (by decide), if_pos rfl] at h1
  refine Eq.trans ?_ ((Nat.add_zero _).symm.trans h1)
  refine fb_ct_cong (fun k hk => ?_)
  rw [b_or, b_sb hl hk]
  by_cases q : k = l
  · rw [if_pos q, decide_eq_true q, Bool.or_true]
  · rw [if_neg q, decide_eq_false q, Bool.or_false]
theorem RB2_add {m m' M M' : jMem} {N : Nat} (r : RB2 N m M) (hN : N < 30) (h1 : m' 29 16 = m 29 16 ||| sb N) (h2 : M' 109 43 = M 109 43) (h3 : M' 129 = upd (M 129) N (nI 0)) : RB2 (N + 1) m' M' := by
  obtain ⟨b, b1, b2, b3, b4⟩ := r
  have hno : bt (m 29 16) N = false := by
    cases q : bt (m 29 16) N
    · rfl
    · have := b3 N q; omega
  refine ⟨b, by rw [h2]; exact b1, ?_, fun j hj => ?_, fun j hj => ?_⟩
  · rw [h1, pcnt_add (by omega) hno]; omega
  · rw [h1, b_or, Bool.or_eq_true] at hj
    rcases hj with hj | hj
    · have := b3 j hj; omega
    · rw [b_sb (by omega) (bt_big hj), decide_eq_true_iff] at hj
      omega
  · rw [h1, h3, b_or]
    by_cases q : j = N
    · rw [q, up_at, b_sb (by omega) (by omega), decide_eq_true rfl, Bool.or_true]; rfl
    · rw [up_ne q, b_sb (by omega) (by omega), decide_eq_false q, Bool.or_false]
      exact b4 j (by omega)
theorem RK2_add {m m' M M' : jMem} {N w d : Nat} (r : RK2 N m M) (hN : N < 30) (hw : w < 6) (hd : d ≤ 999) (f30 : m' 30 = upd (m 30) N (nI w)) (f31 : m' 31 = upd (m 31) N (nI d)) (f42 : m' 42 = upd (m 42) w (m 42 w ||| sb N)) (f75 : m' 75 = m 75) (f77 : ∀ c, 77 ≤ c → c ≤ 82 → m' c = m c) (g135 : M' 135 = upd (M 135) w (M 135 w ||| sb N)) (g136 : ∀ v l, v < 6 → l < 30 → M' 136 (30 * v + l) = if l = N then (if v = w then nI d else nM) else M 136 (30 * v + l)) (g57 : M' 109 57 = M 109 57) : RK2 (N + 1) m' M' := by
  obtain ⟨r1, r2⟩ := r
  refine ⟨fun v hv => ?_, by rw [g57, f75]; exact r2⟩
  obtain ⟨k1, k2, k3⟩ := r1 v hv
  refine ⟨?_, fun j hj => ?_, fun l hl => ?_⟩
  · rw [g135, f42, f75]
    by_cases q : v = w
    · subst q
      rw [up_at, up_at, k1]
      apply b_ext
      intro j _
      simp only [b_or]
      cases bt (m 42 v) j <;> cases bt (m 75 v) j <;> cases bt (sb N) j <;> rfl
    · rw [up_ne q, up_ne q]; exact k1
  · rw [f75] at hj
    obtain ⟨h1, h2⟩ := k2 j hj
    exact ⟨by omega, by rw [f30, up_ne (by omega)]; exact h2⟩
  · rw [g136 v l hv (by omega), f30, f31, f75, f77 (77 + v) (by omega) (by omega)]
    by_cases q : l = N
    · rw [if_pos q, q, up_at, up_at]
      have hno : bt (m 75 v) N = false := by
        cases z : bt (m 75 v) N
        · rfl
        · have := (k2 N z).1; omega
      refine ⟨?_, fun z => by rw [hno] at z; exact absurd z (by decide)⟩
      by_cases e : v = w
      · rw [if_pos e, e, if_pos rfl]
      · rw [if_neg e, if_neg (by rw [eqF (by omega) (by omega) (by omega)]; exact id), hno, if_neg (by decide)]
    · rw [if_neg q, up_ne q, up_ne q]
      exact k3 l (by omega)
theorem RH2_add {m m' M M' : jMem} {N w : Nat} (r : RH2 N m M) (hN : N < 30) (f30 : m' 30 = upd (m 30) N (nI w)) (f : ∀ c, 67 ≤ c → c ≤ 75 → m' c = m c) (g7 : M' 137 = M 137) (g8 : M' 138 = M 138) : RH2 (N + 1) m' M' := by
  intro v hv
  obtain ⟨c, hc, c1, c2, c3, c4, c5⟩ := r v hv
  refine ⟨c, by omega, by rw [f 73 (by omega) (by omega)]; exact c1, by rw [g8]; exact c2, fun k hk => ?_, ?_, ?_⟩
  · obtain ⟨d1, l, d2, d3, d4, d5⟩ := c3 k hk
    rw [g7, f (67 + v) (by omega) (by omega), f 75 (by omega) (by omega), f30]
    exact ⟨d1, l, by omega, d3, d4, by rw [up_ne (by omega)]; exact d5⟩
  · rw [f (67 + v) (by omega) (by omega)]; exact c4
  · rw [f (67 + v) (by omega) (by omega), f 74 (by omega) (by omega)]; exact c5
theorem RP2_up {m m' M M' : jMem} {N : Nat} (r : RP2 N m M) (h0 : m' 89 3 = m 89 3) (h1 : M' 109 64 = M 109 64) (h2 : m' 90 = m 90) (h3 : m' 91 = m 91) (h4 : M' 144 = M 144) (h5 : M' 145 = M 145) : RP2 (N + 1) m' M' := by
  obtain ⟨p, p1, p2, p3, p4, p5, p6⟩ := r
  refine ⟨p, p1, h0.trans p2, h1.trans p3, by rw [h4, h2]; exact p4, by rw [h5, h3]; exact p5, fun k hk => ?_⟩
  obtain ⟨⟨a, ha, ea⟩, b, hb, eb⟩ := p6 k hk
  rw [h2, h3]
  exact ⟨⟨a, by omega, ea⟩, b, by omega, eb⟩
theorem RC2_up {m M : jMem} {N C : Nat} (r : RC2 N C m M) : RC2 (N + 1) C m M := by
  obtain ⟨c1, c2, c3, c4, c5⟩ := r
  refine ⟨c1, c2, c3, c4, fun c hc => ?_⟩
  obtain ⟨⟨l, hl, el⟩, g⟩ := c5 c hc
  exact ⟨⟨l, by omega, el⟩, g⟩
