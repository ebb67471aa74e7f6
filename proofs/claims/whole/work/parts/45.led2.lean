/-! the ledger's questions -/
theorem tIeq (a b : Bool) : (tI a = tI b) = (a = b) := by
  cases a <;> cases b <;> first | exact propext ⟨fun _ => rfl, fun _ => rfl⟩ | exact propext ⟨fun e => absurd e (by decide), fun e => absurd e (by decide)⟩
theorem bt_big {x : Int32} {j : Nat} (h : bt x j = true) : j < 32 := by
  rcases Nat.lt_or_ge j 32 with q | q
  · exact q
  · rw [b_big q] at h; exact absurd h (by decide)
theorem pc_num {p b : Int32} {W : Nat → Int32} {l N : Nat} {v : Int32} (hl : l < N) (hN : N ≤ 30) (hp : ∀ j, bt p j = true → j < l) (hb : ∀ j, bt b j = true ↔ j < N ∧ W j = v) : pcnt ((p ||| sb l) &&& b) = (if W l = v then 1 else 0) + fb_ct (fun x => bt p x && decide (W x = v)) l := by
  have hbb : ∀ j, j < N → bt b j = decide (W j = v) := fun j hj => by
    by_cases e : W j = v
    · rw [decide_eq_true e]; exact (hb j).mpr ⟨hj, e⟩
    · rw [decide_eq_false e]
      cases hq : bt b j
      · rfl
      · exact absurd ((hb j).mp hq).2 e
  unfold pcnt
  rw [ct_top (n := l + 1) (by omega) (fun j h1 h2 => by
    rw [b_and, b_or, b_sb (by omega) h2]
    have h3 : bt p j = false := by
      cases hq : bt p j
      · rfl
      · have := hp j hq; omega
    rw [h3, decide_eq_false (by omega)]; rfl), fb_ct_succ, Nat.add_comm]
  congr 1
  · rw [b_and, b_or, b_sb (by omega) (by omega), decide_eq_true rfl, Bool.or_true, Bool.true_and, hbb l hl]
    simp only [decide_eq_true_eq]
  · refine fb_ct_cong (fun x hx => ?_)
    rw [b_and, b_or, b_sb (by omega) (by omega), decide_eq_false (by omega), Bool.or_false, hbb x (by omega)]
/-- the letters as the class bears them: what is asked of numbers -/
def LN (N : Nat) (m : jMem) : Prop := N ≤ 30 ∧ m 29 15 = nI N ∧ (∀ l, l < N → ∀ j, bt (m 37 l) j = true → j < l) ∧ (∀ w, w < 6 → ∀ j, bt (m 42 w) j = true ↔ j < N ∧ m 30 j = nI w)
theorem e_numberFor {N l v : Nat} {m : jMem} (h : LN N m) (hl : l < N) (hv : v < 6) : f_L_numberFor (nI l) (nI v) m = some (nI (numS (m 37) (m 30) l (nI v)), m) := by
  obtain ⟨h30, hN, hp, hb⟩ := h
  unfold f_L_numberFor numS
  simp (disch := omega) only [lits, negs, nI_add, nn1, leT, leF, ltT, ltF, eqF, mF1, mF2, mF3, mF4, mF5, mF6, mTT, eq_self, Nat.reduceEqDiff, ↓reduceIte, jbd_s, jpu_e, tI0, tI1, jgd_tI, jgd_bb, tfF, ftF, jup_at, jup_oc, jup_ok, ld_37, e_bit, ld_42, e_bitCount]
  rw [pc_num hl h30 (hp l hl) (hb v hv)]
/-- the greatest number -/
def pairS (P W : Nat → Int32) (l : Nat) (u v : Int32) : Nat := mxS (fun x => decide (W x = v) && (decide (x = l) || bt (P l) x)) (fun x => numS P W x u) (l + 1)
theorem b_looked {N l v : Nat} {m : jMem} (h : LN N m) (hl : l < N) (hv : v < 6) {x : Nat} (hx : x ≤ l) : bt ((m 37 l ||| sb l) &&& m 42 v) x = (decide (m 30 x = nI v) && (decide (x = l) || bt (m 37 l) x)) := by
  obtain ⟨h30, hN, hp, hb⟩ := h
  have hbb : bt (m 42 v) x = decide (m 30 x = nI v) := by
    by_cases e : m 30 x = nI v
    · rw [decide_eq_true e]; exact (hb v hv x).mpr ⟨by omega, e⟩
    · rw [decide_eq_false e]
      cases hq : bt (m 42 v) x
      · rfl
      · exact absurd ((hb v hv x).mp hq).2 e
  rw [b_and, b_or, b_sb (by omega) (by omega), hbb]
  cases bt (m 37 l) x <;> cases decide (x = l) <;> cases decide (m 30 x = nI v) <;> rfl
theorem lp_non {N l u v : Nat} {k : Int32 → jMem → Option (Int32 × jMem)} {m : jMem} (h : LN N m) (hl : l < N) (hu : u < 6) (hv : v < 6) : ∀ (d n i : Nat), i + d = (l + 1) → d < n → lp_L_numberOfNumber_26 (nI l) (nI u) ((m 37 l ||| sb l) &&& m 42 v) k n (nI (mxS (fun x => decide (m 30 x = nI v) && (decide (x = l) || bt (m 37 l) x)) (fun x => numS (m 37) (m 30) x (nI u)) i)) (nI i) m = k (nI (pairS (m 37) (m 30) l (nI u) (nI v))) m := by
  have h30 := h.1
  intro d
  induction d with
  | zero =>
    intro n i hid hdn
    obtain ⟨n, rfl⟩ := ex_succ hdn
    rw [show i = (l + 1) by omega]
    unfold lp_L_numberOfNumber_26
    simp (disch := omega) only [lits, negs, nI_add, nn1, leT, leF, ltT, ltF, eqF, mF1, mF2, mF3, mF4, mF5, mF6, mTT, eq_self, Nat.reduceEqDiff, ↓reduceIte, jbd_s, jpu_e, tI0, tI1, jgd_tI, jgd_bb, tfF, ftF, jup_at, jup_oc, jup_ok, pairS]
  | succ d ih =>
    intro n i hid hdn
    obtain ⟨n, rfl⟩ := ex_succ hdn
    have e := ih n (i + 1) (by omega) (by omega)
    unfold lp_L_numberOfNumber_26
    have hm := mxS_le (p := fun x => decide (m 30 x = nI v) && (decide (x = l) || bt (m 37 l) x)) (f := fun x => numS (m 37) (m 30) x (nI u)) (n := i) (B := 100) (fun y hy => by have := numS_le (m 37) (m 30) y (nI u); omega)
    have hn2 := numS_le (m 37) (m 30) i (nI u)
    rw [mxS_succ] at e
    cases hp : (decide (m 30 i = nI v) && (decide (i = l) || bt (m 37 l) i))
    · simp only [hp] at e
      simp (disch := omega) only [lits, negs, nI_add, nn1, leT, leF, ltT, ltF, eqF, mF1, mF2, mF3, mF4, mF5, mF6, mTT, eq_self, Nat.reduceEqDiff, ↓reduceIte, jbd_s, jpu_e, tI0, tI1, jgd_tI, jgd_bb, tfF, ftF, jup_at, jup_oc, jup_ok, e_isIn, b_looked h hl hv, hp] at e ⊢
      exact e
    · simp only [hp] at e
      simp (disch := omega) only [lits, negs, nI_add, nn1, leT, leF, ltT, ltF, eqF, mF1, mF2, mF3, mF4, mF5, mF6, mTT, eq_self, Nat.reduceEqDiff, ↓reduceIte, jbd_s, jpu_e, tI0, tI1, jgd_tI, jgd_bb, tfF, ftF, jup_at, jup_oc, jup_ok, e_isIn, b_looked h hl hv, hp, e_numberFor h, jmax_nI] at e ⊢
      exact e
theorem e_non {N l u v : Nat} {m : jMem} (h : LN N m) (hl : l < N) (hu : u < 6) (hv : v < 6) : f_L_numberOfNumber (nI l) (nI u) (nI v) m = some (nI (pairS (m 37) (m 30) l (nI u) (nI v)), m) := by
  have h30 := h.1
  unfold f_L_numberOfNumber
  simp (disch := omega) only [lits, negs, nI_add, nn1, leT, leF, ltT, ltF, eqF, mF1, mF2, mF3, mF4, mF5, mF6, mTT, eq_self, Nat.reduceEqDiff, ↓reduceIte, jbd_s, jpu_e, tI0, tI1, jgd_tI, jgd_bb, tfF, ftF, jup_at, jup_oc, jup_ok, ld_37, e_bit, ld_42]
  exact lp_non h hl hu hv (l + 1) 5000 0 (by omega) (by omega)
/-- telling by a bearing -/
def tldS (P W C L : Nat → Int32) (s : Nat → Nat) (a b br : Nat) : Bool := if br = 0 then bt (C b) a else if br = 1 then decide (s a < s b) else if br = 2 then decide (numS P W a (W a) ≤ numS P W b (W a)) else bt (L b) a
theorem tldS_0 (P W C L : Nat → Int32) (s : Nat → Nat) (a b : Nat) : tldS P W C L s a b 0 = bt (C b) a := rfl
theorem tldS_1 (P W C L : Nat → Int32) (s : Nat → Nat) (a b : Nat) : tldS P W C L s a b 1 = decide (s a < s b) := rfl
theorem tldS_2 (P W C L : Nat → Int32) (s : Nat → Nat) (a b : Nat) : tldS P W C L s a b 2 = decide (numS P W a (W a) ≤ numS P W b (W a)) := rfl
theorem tldS_3 (P W C L : Nat → Int32) (s : Nat → Nat) (a b : Nat) : tldS P W C L s a b 3 = bt (L b) a := rfl
theorem e_isTold {N a b br : Nat} {s : Nat → Nat} {m : jMem} (h : LN N m) (hw : ∀ l, l < N → ∃ w, w < 6 ∧ m 30 l = nI w) (hs : ∀ l, l < N → m 41 l = nI (s l)) (hsb : ∀ l, l < N → s l ≤ 1000) (ha : a < N) (hb : b < N) (hbr : br ≤ 3) : f_L_isTold (nI a) (nI b) (nI br) m = some (tI (tldS (m 37) (m 30) (m 38) (m 40) s a b br), m) := by
  have h30 := h.1
  obtain ⟨w, hw6, hwe⟩ := hw a ha
  have sa := hsb a ha
  have sbb := hsb b hb
  have n1 := numS_le (m 37) (m 30) a (nI w)
  have n2 := numS_le (m 37) (m 30) b (nI w)
  unfold f_L_isTold
  rcases (by omega : br = 0 ∨ br = 1 ∨ br = 2 ∨ br = 3) with rfl | rfl | rfl | rfl
  · rw [tldS_0]
    simp (disch := omega) only [lits, negs, nI_add, nn1, leT, leF, ltT, ltF, eqF, mF1, mF2, mF3, mF4, mF5, mF6, mTT, eq_self, Nat.reduceEqDiff, ↓reduceIte, jbd_s, jpu_e, tI0, tI1, jgd_tI, jgd_bb, tfF, ftF, jup_at, jup_oc, jup_ok, ld_38, e_isIn]
  · rw [tldS_1]
    simp (disch := omega) only [lits, negs, nI_add, nn1, leT, leF, ltT, ltF, eqF, mF1, mF2, mF3, mF4, mF5, mF6, mTT, eq_self, Nat.reduceEqDiff, ↓reduceIte, jbd_s, jpu_e, tI0, tI1, jgd_tI, jgd_bb, tfF, ftF, jup_at, jup_oc, jup_ok, ld_41, hs]
    by_cases q : s a < s b
    · simp (disch := omega) only [lits, negs, nI_add, nn1, leT, leF, ltT, ltF, eqF, mF1, mF2, mF3, mF4, mF5, mF6, mTT, eq_self, Nat.reduceEqDiff, ↓reduceIte, jbd_s, jpu_e, tI0, tI1, jgd_tI, jgd_bb, tfF, ftF, jup_at, jup_oc, jup_ok, decide_eq_true q, tI_t]
    · simp (disch := omega) only [lits, negs, nI_add, nn1, leT, leF, ltT, ltF, eqF, mF1, mF2, mF3, mF4, mF5, mF6, mTT, eq_self, Nat.reduceEqDiff, ↓reduceIte, jbd_s, jpu_e, tI0, tI1, jgd_tI, jgd_bb, tfF, ftF, jup_at, jup_oc, jup_ok, decide_eq_false q, tI_f]
  · rw [tldS_2, hwe]
    simp (disch := omega) only [lits, negs, nI_add, nn1, leT, leF, ltT, ltF, eqF, mF1, mF2, mF3, mF4, mF5, mF6, mTT, eq_self, Nat.reduceEqDiff, ↓reduceIte, jbd_s, jpu_e, tI0, tI1, jgd_tI, jgd_bb, tfF, ftF, jup_at, jup_oc, jup_ok, ld_30, hwe, e_numberFor h]
    by_cases q : numS (m 37) (m 30) a (nI w) ≤ numS (m 37) (m 30) b (nI w)
    · simp (disch := omega) only [lits, negs, nI_add, nn1, leT, leF, ltT, ltF, eqF, mF1, mF2, mF3, mF4, mF5, mF6, mTT, eq_self, Nat.reduceEqDiff, ↓reduceIte, jbd_s, jpu_e, tI0, tI1, jgd_tI, jgd_bb, tfF, ftF, jup_at, jup_oc, jup_ok, decide_eq_true q, tI_t]
    · simp (disch := omega) only [lits, negs, nI_add, nn1, leT, leF, ltT, ltF, eqF, mF1, mF2, mF3, mF4, mF5, mF6, mTT, eq_self, Nat.reduceEqDiff, ↓reduceIte, jbd_s, jpu_e, tI0, tI1, jgd_tI, jgd_bb, tfF, ftF, jup_at, jup_oc, jup_ok, decide_eq_false q, tI_f]
  · rw [tldS_3]
    simp (disch := omega) only [lits, negs, nI_add, nn1, leT, leF, ltT, ltF, eqF, mF1, mF2, mF3, mF4, mF5, mF6, mTT, eq_self, Nat.reduceEqDiff, ↓reduceIte, jbd_s, jpu_e, tI0, tI1, jgd_tI, jgd_bb, tfF, ftF, jup_at, jup_oc, jup_ok, ld_40, e_isIn]
def errS (t : Nat → Nat → Bool) (P : Nat → Int32) (N : Nat) : Nat := fb_sm (fun a => fb_ct (fun b => !decide (a = b) && (t a b != bt (P b) a)) N) N
theorem bne_F {a b : Bool} (h : ¬ a = b) : (a != b) = true := by cases a <;> cases b <;> first | rfl | exact absurd rfl h
theorem bne_T {a b : Bool} (h : a = b) : (a != b) = false := by subst h; cases a <;> rfl
theorem lp_tw1 {N a br c0 : Nat} {s : Nat → Nat} {k : Int32 → jMem → Option (Int32 × jMem)} {m : jMem} (h : LN N m) (hw : ∀ l, l < N → ∃ w, w < 6 ∧ m 30 l = nI w) (hs : ∀ l, l < N → m 41 l = nI (s l)) (hsb : ∀ l, l < N → s l ≤ 1000) (ha : a < N) (hbr : br ≤ 3) : ∀ (d n i : Nat), i + d = N → d < n → lp_L_toldWrongly_15 (nI br) (nI a) k n (nI (c0 + fb_ct (fun b => !decide (a = b) && (tldS (m 37) (m 30) (m 38) (m 40) s a b br != bt (m 37 b) a)) i)) (nI i) m = k (nI (c0 + fb_ct (fun b => !decide (a = b) && (tldS (m 37) (m 30) (m 38) (m 40) s a b br != bt (m 37 b) a)) N)) m := by
  have h30 := h.1
  intro d
  induction d with
  | zero =>
    intro n i hid hdn
    obtain ⟨n, rfl⟩ := ex_succ hdn
    rw [show i = N by omega]
    unfold lp_L_toldWrongly_15
    simp (disch := omega) only [lits, negs, nI_add, nn1, leT, leF, ltT, ltF, eqF, mF1, mF2, mF3, mF4, mF5, mF6, mTT, eq_self, Nat.reduceEqDiff, ↓reduceIte, jbd_s, jpu_e, tI0, tI1, jgd_tI, jgd_bb, tfF, ftF, jup_at, jup_oc, jup_ok, h.2.1]
  | succ d ih =>
    intro n i hid hdn
    obtain ⟨n, rfl⟩ := ex_succ hdn
    have e := ih n (i + 1) (by omega) (by omega)
    unfold lp_L_toldWrongly_15
    have hN := h.2.1
    rw [fb_ct_succ] at e
    by_cases hq : a = i
    · simp only [decide_eq_true hq, Bool.not_true, Bool.false_and, if_neg (by decide : ¬ false = true), Nat.add_zero] at e
      subst hq
      simp (disch := omega) only [lits, negs, nI_add, nn1, leT, leF, ltT, ltF, eqF, mF1, mF2, mF3, mF4, mF5, mF6, mTT, eq_self, Nat.reduceEqDiff, ↓reduceIte, jbd_s, jpu_e, tI0, tI1, jgd_tI, jgd_bb, tfF, ftF, jup_at, jup_oc, jup_ok, hN] at e ⊢
      exact e
    · by_cases hr : tldS (m 37) (m 30) (m 38) (m 40) s a i br = bt (m 37 i) a
      · simp only [decide_eq_false hq, bne_T hr, Bool.and_false, if_neg (by decide : ¬ false = true), Nat.add_zero] at e
        simp (disch := omega) only [lits, negs, nI_add, nn1, leT, leF, ltT, ltF, eqF, mF1, mF2, mF3, mF4, mF5, mF6, mTT, eq_self, Nat.reduceEqDiff, ↓reduceIte, jbd_s, jpu_e, tI0, tI1, jgd_tI, jgd_bb, tfF, ftF, jup_at, jup_oc, jup_ok, hN, e_isTold h hw hs hsb, ld_37, e_isIn, tIeq, hr] at e ⊢
        exact e
      · simp only [decide_eq_false hq, bne_F hr, Bool.not_false, Bool.and_true, if_pos, ← Nat.add_assoc] at e
        simp (disch := omega) only [lits, negs, nI_add, nn1, leT, leF, ltT, ltF, eqF, mF1, mF2, mF3, mF4, mF5, mF6, mTT, eq_self, Nat.reduceEqDiff, ↓reduceIte, jbd_s, jpu_e, tI0, tI1, jgd_tI, jgd_bb, tfF, ftF, jup_at, jup_oc, jup_ok, hN, e_isTold h hw hs hsb, ld_37, e_isIn, tIeq] at e ⊢
        rw [if_neg hr]
        exact e
theorem lp_tw2 {N br : Nat} {s : Nat → Nat} {k : Int32 → jMem → Option (Int32 × jMem)} {m : jMem} (h : LN N m) (hw : ∀ l, l < N → ∃ w, w < 6 ∧ m 30 l = nI w) (hs : ∀ l, l < N → m 41 l = nI (s l)) (hsb : ∀ l, l < N → s l ≤ 1000) (hbr : br ≤ 3) : ∀ (d n i : Nat), i + d = N → d < n → lp_L_toldWrongly_4 (nI br) k n (nI (fb_sm (fun a => fb_ct (fun b => !decide (a = b) && (tldS (m 37) (m 30) (m 38) (m 40) s a b br != bt (m 37 b) a)) N) i)) (nI i) m = k (nI (errS (fun a b => tldS (m 37) (m 30) (m 38) (m 40) s a b br) (m 37) N)) m := by
  have h30 := h.1
  intro d
  induction d with
  | zero =>
    intro n i hid hdn
    obtain ⟨n, rfl⟩ := ex_succ hdn
    rw [show i = N by omega]
    unfold lp_L_toldWrongly_4
    simp (disch := omega) only [lits, negs, nI_add, nn1, leT, leF, ltT, ltF, eqF, mF1, mF2, mF3, mF4, mF5, mF6, mTT, eq_self, Nat.reduceEqDiff, ↓reduceIte, jbd_s, jpu_e, tI0, tI1, jgd_tI, jgd_bb, tfF, ftF, jup_at, jup_oc, jup_ok, h.2.1, errS]
  | succ d ih =>
    intro n i hid hdn
    obtain ⟨n, rfl⟩ := ex_succ hdn
    have e := ih n (i + 1) (by omega) (by omega)
    unfold lp_L_toldWrongly_4
    have hN := h.2.1
    rw [fb_sm_succ] at e
    simp (disch := omega) only [lits, negs, nI_add, nn1, leT, leF, ltT, ltF, eqF, mF1, mF2, mF3, mF4, mF5, mF6, mTT, eq_self, Nat.reduceEqDiff, ↓reduceIte, jbd_s, jpu_e, tI0, tI1, jgd_tI, jgd_bb, tfF, ftF, jup_at, jup_oc, jup_ok, hN]
    rw [show nI (fb_sm (fun a => fb_ct (fun b => !decide (a = b) && (tldS (m 37) (m 30) (m 38) (m 40) s a b br != bt (m 37 b) a)) N) i) = nI (fb_sm (fun a => fb_ct (fun b => !decide (a = b) && (tldS (m 37) (m 30) (m 38) (m 40) s a b br != bt (m 37 b) a)) N) i + fb_ct (fun b => !decide (i = b) && (tldS (m 37) (m 30) (m 38) (m 40) s i b br != bt (m 37 b) i)) 0) from rfl]
    rw [lp_tw1 h hw hs hsb (by omega) hbr N 5000 0 (by omega) (by omega)]
    exact e
theorem e_tw {N br : Nat} {s : Nat → Nat} {m : jMem} (h : LN N m) (hw : ∀ l, l < N → ∃ w, w < 6 ∧ m 30 l = nI w) (hs : ∀ l, l < N → m 41 l = nI (s l)) (hsb : ∀ l, l < N → s l ≤ 1000) (hbr : br ≤ 3) : f_L_toldWrongly (nI br) m = some (nI (errS (fun a b => tldS (m 37) (m 30) (m 38) (m 40) s a b br) (m 37) N), m) := by
  have h30 := h.1
  unfold f_L_toldWrongly
  simp only [lits]
  exact lp_tw2 h hw hs hsb hbr N 5000 0 (by omega) (by omega)
/-- a set of letters -/
def isSt (N : Nat) (v : Int32) : Bool := (List.range 32).all fun j => !bt v j || decide (j < N)
theorem isSt_iff {N : Nat} {v : Int32} : isSt N v = true ↔ ∀ j, bt v j = true → j < N := by
  unfold isSt
  rw [List.all_eq_true]
  refine ⟨fun h j hj => ?_, fun h j _ => ?_⟩
  · have h1 := h j (List.mem_range.mpr (bt_big hj))
    rw [hj] at h1
    simpa using h1
  · cases hb : bt v j
    · rfl
    · simp [h j hb]
theorem sb1_bits : ∀ n, n ≤ 30 → ∀ j, j < 32 → bt (sb n - nI 1) j = decide (j < n) := by decide +kernel
theorem e_isSet {N : Nat} {v : Int32} {m : jMem} (hN : m 29 15 = nI N) (h30 : N ≤ 30) : f_L_isSet v m = some (tI (isSt N v), m) := by
  unfold f_L_isSet
  simp (disch := omega) only [lits, negs, nI_add, nn1, leT, leF, ltT, ltF, eqF, mF1, mF2, mF3, mF4, mF5, mF6, mTT, eq_self, Nat.reduceEqDiff, ↓reduceIte, jbd_s, jpu_e, tI0, tI1, jgd_tI, jgd_bb, tfF, ftF, jup_at, jup_oc, jup_ok, hN, e_bit]
  by_cases h : isSt N v = true
  · have h1 := isSt_iff.mp h
    have h0 : ¬ v < nI 0 := fun q => by have := h1 31 (bt31.mp q); omega
    rw [if_neg h0, if_pos, h, tI_t]
    rw [ex32]
    intro j hj
    rw [b_and, b_not hj, sb1_bits N h30 j hj]
    cases hb : bt v j
    · rfl
    · rw [decide_eq_true (h1 j hb)]; rfl
  · have hf : isSt N v = false := by cases hq : isSt N v; rfl; exact absurd hq h
    rw [hf, tI_f]
    by_cases h0 : v < nI 0
    · rw [if_pos h0]
    · rw [if_neg h0, if_neg]
      intro e
      apply h
      rw [isSt_iff]
      intro j hj
      have hj32 := bt_big hj
      have h2 := ex32.mp e j hj32
      rw [b_and, b_not hj32, sb1_bits N h30 j hj32, hj] at h2
      by_cases q : j < N
      · exact q
      · rw [decide_eq_false q] at h2; exact absurd h2 (by decide)
theorem e_MisSet {N : Nat} {v : Int32} {m : jMem} (hN : m 109 33 = nI N) (h30 : N ≤ 30) : f_M_isSet v m = some (tI (isSt N v), m) := by
  unfold f_M_isSet
  simp (disch := omega) only [lits, negs, nI_add, nn1, leT, leF, ltT, ltF, eqF, mF1, mF2, mF3, mF4, mF5, mF6, mTT, eq_self, Nat.reduceEqDiff, ↓reduceIte, jbd_s, jpu_e, tI0, tI1, jgd_tI, jgd_bb, tfF, ftF, jup_at, jup_oc, jup_ok, hN, sb_e]
  by_cases h0 : v < nI 0
  · rw [if_pos h0]
    have hf : isSt N v = false := by
      cases hq : isSt N v
      · rfl
      · have := isSt_iff.mp hq 31 (bt31.mp h0); omega
    rw [hf]; rfl
  · rw [if_neg h0]
    obtain ⟨k, hk, rfl⟩ := nI_of h0
    have e2 : ∀ n, n ≤ 30 → sb n = nI (2 ^ n) := by decide +kernel
    have p30 : 2 ^ N ≤ 2 ^ 30 := Nat.pow_le_pow_right (by omega) h30
    rw [e2 N h30]
    by_cases q : 2 ^ N ≤ k
    · rw [if_pos (nI_le q hk)]
      have hf : isSt N (nI k) = false := by
        cases hq : isSt N (nI k)
        · rfl
        · exfalso
          have h1 := isSt_iff.mp hq
          have h2 : k < 2 ^ N := Nat.lt_pow_two_of_testBit k (fun i hi => by
            rcases Nat.lt_or_ge i 32 with r | r
            · cases hb : k.testBit i
              · rfl
              · have := h1 i (by rw [bt_nI r]; exact hb); omega
            · exact Nat.testBit_lt_two_pow (Nat.lt_of_lt_of_le hk (Nat.pow_le_pow_right (by omega) (by omega))))
          omega
      rw [hf]; rfl
    · rw [if_neg (nI_ge (by omega) (by omega))]
      have hf : isSt N (nI k) = true := isSt_iff.mpr fun j hj => by
        have hj32 := bt_big hj
        rw [bt_nI hj32] at hj
        rcases Nat.lt_or_ge j N with r | r
        · exact r
        · rw [Nat.testBit_lt_two_pow (Nat.lt_of_lt_of_le (by omega : k < 2 ^ N) (Nat.pow_le_pow_right (by omega) r))] at hj
          exact absurd hj (by decide)
      rw [hf]; rfl
