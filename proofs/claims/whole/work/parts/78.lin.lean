/-! the lines by which a writer answers -/
theorem Rel2_sc {N C : Nat} {m m' M M' : jMem} (e : ∀ c, c ≠ 11 → c ≠ 20 → c ≠ 28 → m' c = m c) (g : ∀ c, c ≠ 118 → c ≠ 119 → c ≠ 140 → c ≠ 109 → M' c = M c) (g9 : ∀ k, k ≠ 30 → k ≠ 0 → M' 109 k = M 109 k) (r : Rel2 N C m M) : Rel2 N C m' M' := by
  obtain ⟨r1, r2, r3, r4, r5, r6, r7, r8, r9, r10, r11⟩ := r
  refine ⟨?_, ?_, ?_, ?_, ?_, ?_, ?_, ?_, ?_, ?_, ?_⟩
  · obtain ⟨a1, a2, a3, a4, a5, a6, a7⟩ := r1
    refine ⟨a1, by rw [e 29 (by omega) (by omega) (by omega)]; exact a2, by rw [g9 33 (by omega) (by omega)]; exact a3, ?_, fun l hl => RLl_cong (fun c _ _ => e c (by omega) (by omega) (by omega)) (a5 l hl), ?_, ?_⟩
    · rw [e 30 (by omega) (by omega) (by omega), e 31 (by omega) (by omega) (by omega), e 32 (by omega) (by omega) (by omega), e 33 (by omega) (by omega) (by omega), e 34 (by omega) (by omega) (by omega), e 35 (by omega) (by omega) (by omega), e 36 (by omega) (by omega) (by omega), e 37 (by omega) (by omega) (by omega), g 121 (by omega) (by omega) (by omega) (by omega), g 122 (by omega) (by omega) (by omega) (by omega), g 123 (by omega) (by omega) (by omega) (by omega), g 124 (by omega) (by omega) (by omega) (by omega), g 125 (by omega) (by omega) (by omega) (by omega), g 126 (by omega) (by omega) (by omega) (by omega), g 127 (by omega) (by omega) (by omega) (by omega), g 128 (by omega) (by omega) (by omega) (by omega)]
      exact a4
    · rw [e 42 (by omega) (by omega) (by omega), e 30 (by omega) (by omega) (by omega)]; exact a6
    · rw [e 43 (by omega) (by omega) (by omega), e 33 (by omega) (by omega) (by omega)]; exact a7
  · unfold RB2
    rw [e 29 (by omega) (by omega) (by omega), g9 43 (by omega) (by omega), g 129 (by omega) (by omega) (by omega) (by omega)]
    exact r2
  · unfold RT2
    rw [e 1 (by omega) (by omega) (by omega), e 2 (by omega) (by omega) (by omega), g9 2 (by omega) (by omega), g 110 (by omega) (by omega) (by omega) (by omega)]
    exact r3
  · unfold RD2
    rw [e 1 (by omega) (by omega) (by omega), g9 31 (by omega) (by omega)]
    exact r4
  · obtain ⟨W, w1, w2⟩ := r5
    refine ⟨W, fun a ha b hb => ?_, w2⟩
    rw [e (47 + a) (by omega) (by omega) (by omega), e (54 + a) (by omega) (by omega) (by omega), g 120 (by omega) (by omega) (by omega) (by omega)]
    exact w1 a ha b hb
  · unfold RS2
    rw [e 45 (by omega) (by omega) (by omega), g9 50 (by omega) (by omega), g9 51 (by omega) (by omega), g9 52 (by omega) (by omega)]
    exact r6
  · unfold RC2
    rw [e 45 (by omega) (by omega) (by omega), e 60 (by omega) (by omega) (by omega), e 61 (by omega) (by omega) (by omega), e 62 (by omega) (by omega) (by omega), e 63 (by omega) (by omega) (by omega), e 64 (by omega) (by omega) (by omega), g9 44 (by omega) (by omega), g 130 (by omega) (by omega) (by omega) (by omega), g 131 (by omega) (by omega) (by omega) (by omega), g 132 (by omega) (by omega) (by omega) (by omega), g 133 (by omega) (by omega) (by omega) (by omega), g 134 (by omega) (by omega) (by omega) (by omega)]
    exact r7
  · obtain ⟨k1, k2⟩ := r8
    refine ⟨fun w hw => ?_, by rw [e 75 (by omega) (by omega) (by omega), g9 57 (by omega) (by omega)]; exact k2⟩
    unfold RKw2
    rw [e 42 (by omega) (by omega) (by omega), e 75 (by omega) (by omega) (by omega), e 30 (by omega) (by omega) (by omega), e 31 (by omega) (by omega) (by omega), e (77 + w) (by omega) (by omega) (by omega), g 135 (by omega) (by omega) (by omega) (by omega), g 136 (by omega) (by omega) (by omega) (by omega)]
    exact k1 w hw
  · intro w hw
    have := r9 w hw
    unfold RHw2 at this ⊢
    rw [e 73 (by omega) (by omega) (by omega), e 74 (by omega) (by omega) (by omega), e 75 (by omega) (by omega) (by omega), e 30 (by omega) (by omega) (by omega), e (67 + w) (by omega) (by omega) (by omega), g 137 (by omega) (by omega) (by omega) (by omega), g 138 (by omega) (by omega) (by omega) (by omega)]
    exact this
  · unfold RP2
    rw [e 89 (by omega) (by omega) (by omega), e 90 (by omega) (by omega) (by omega), e 91 (by omega) (by omega) (by omega), g9 64 (by omega) (by omega), g 144 (by omega) (by omega) (by omega) (by omega), g 145 (by omega) (by omega) (by omega) (by omega)]
    exact r10
  · exact RX2_fr ⟨by rw [e 1 (by omega) (by omega) (by omega)], by rw [e 1 (by omega) (by omega) (by omega)], by rw [e 21 (by omega) (by omega) (by omega)], by rw [e 21 (by omega) (by omega) (by omega)], fun c _ _ _ => e c (by omega) (by omega) (by omega)⟩ ⟨g9 23 (by omega) (by omega), g9 24 (by omega) (by omega), g9 6 (by omega) (by omega), g9 11 (by omega) (by omega), fun c _ _ => g c (by omega) (by omega) (by omega) (by omega)⟩ r11
def nmB (x y : Int32) : Nat := (if x = nM then 0 else 1) + (if y = nM then 0 else 1)
theorem pcnt_0 : pcnt (nI 0) = 0 := by decide +kernel
theorem or_0n (a : Int32) : nI 0 ||| a = a := b_ext fun j _ => by rw [b_or, b_n0, Bool.false_or]
theorem pcnt_sb {a : Nat} (ha : a < 32) : pcnt (sb a) = 1 := by
  have h := pcnt_add (x := nI 0) ha (b_n0 a)
  rw [or_0n, pcnt_0] at h
  exact h
theorem pcnt_ans {x y : Int32} {n : Nat} (hn : n ≤ 30) (hx : oI x n) (hy : oI y n) (h1 : x = nM → y = nM) (h2 : y ≠ nM → y ≠ x) : pcnt (ansS x y) = nmB x y := by
  have h0 : ∀ a : Nat, a < 30 → ¬ nI a = nM := fun a ha e => by rw [mF1 (by omega)] at e; exact e
  unfold nmB ansS
  rcases hx with rfl | ⟨a, ha, rfl⟩
  · rw [h1 rfl, if_pos rfl, if_pos rfl, if_pos rfl, pcnt_0]
  · rw [if_neg (h0 a (by omega)), if_neg (h0 a (by omega))]
    rcases hy with rfl | ⟨b, hb, rfl⟩
    · rw [if_pos rfl, if_pos rfl, sb_e, or_0n, pcnt_sb (by omega)]
    · rw [if_neg (h0 b (by omega)), if_neg (h0 b (by omega)), sb_e, sb_e, or_0n]
      have hne : b ≠ a := fun e => h2 (h0 b (by omega)) (by rw [e])
      rw [pcnt_add (by omega) (by rw [b_sb (by omega) (by omega), decide_eq_false hne]), pcnt_sb (by omega)]
theorem pcnt_by {N w : Nat} {m M : jMem} (rl : RL2 N m M) (hw : w < 6) : pcnt (m 42 w) = fb_ct (fun l => decide (m 30 l = nI w)) N := by
  have h30 := rl.1
  have hby := rl.2.2.2.2.2.1 w hw
  unfold pcnt
  rw [ct_top (n := N) (by omega) (fun j h1 _ => by
    cases q : bt (m 42 w) j
    · rfl
    · have := ((hby j).mp q).1; omega)]
  exact fb_ct_cong (fun j hj => by
    rw [Bool.eq_iff_iff, hby j, decide_eq_true_iff]
    exact ⟨fun h => h.2, fun h => ⟨hj, h⟩⟩)
/-- what the names of a text stand for -/
def fcS (m : jMem) (N w l d : Nat) : Nat → Int32 := fun i =>
  if i = 0 then m 30 l else if i = 1 then m 32 l else if i = 2 then nI d - m 31 l else if i = 3 then nI (pcnt (m 42 w ||| m 75 w)) else if i = 4 then m 41 l else if i = 5 then nI (nmB (m 34 l) (m 35 l)) else nI (fb_ct (fun x => decide (m 30 x = nI w)) N)
theorem e_gather {N w l d : Nat} {m M : jMem} (rl : RL2 N m M) (hw : w < 6) (hl : l < N) (hd : m 1 6 = nI d) : ∃ m', f_C_gatherFacts (nI w) (nI l) m = some ((), m') ∧ (∀ c, c ≠ 28 → m' c = m c) ∧ ∀ i, i < 7 → m' 28 i = fcS m N w l d i := by
  have h30 := rl.1
  obtain ⟨-, -, -, -, o1, o2, o3, o4, -⟩ := rl.2.2.2.2.1 l hl
  have hpa := pcnt_ans (by omega : l ≤ 30) o1 o2 o3 o4
  have hpb := pcnt_by rl hw
  refine ⟨jup (jup (jup (jup (jup (jup (jup m 28 0 (m 30 l)) 28 1 (m 32 l)) 28 2 (nI d - m 31 l)) 28 3 (nI (pcnt (m 42 w ||| m 75 w)))) 28 4 (m 41 l)) 28 5 (nI (nmB (m 34 l) (m 35 l)))) 28 6 (nI (fb_ct (fun x => decide (m 30 x = nI w)) N)), ?_, fun c hc => by simp (disch := omega) only [lits, negs, nI_add, nn1, leT, leF, ltT, ltF, eqF, mF1, mF2, mF3, mF4, mF5, mF6, mTT, eq_self, Nat.reduceEqDiff, ↓reduceIte, jbd_s, jpu_e, tI0, tI1, jgd_tI, jgd_bb, tfF, ftF, jup_at, jup_oc, jup_ok, hc], fun i hi => ?_⟩
  · have ekn : ∀ X : jMem, X 42 = m 42 → X 75 = m 75 → f_C_knownTo (nI w) X = some (m 42 w ||| m 75 w, X) := fun X h1 h2 => by rw [e_knownTo hw, h1, h2]
    have ean : ∀ X : jMem, X 34 = m 34 → X 35 = m 35 → f_L_answered (nI l) X = some (ansS (m 34 l) (m 35 l), X) := fun X h1 h2 => by rw [e_answered (by omega), h1, h2]
    unfold f_C_gatherFacts
    simp only [lits, negs]
    simp (disch := first | omega | (simp (disch := omega) only [jup_at, jup_oc, jup_ok, hd])) only [lits, negs, nI_add, nn1, leT, leF, ltT, ltF, eqF, mF1, mF2, mF3, mF4, mF5, mF6, mTT, eq_self, Nat.reduceEqDiff, ↓reduceIte, ↓jbd_s, ↓jpu_e, tI0, tI1, jgd_tI, jgd_bb, tfF, ftF, jup_at, jup_oc, jup_ok, ↓ld_30, ↓st_28, ↓ld_32, ↓ld_31, hd, ekn, e_bitCount, ↓ld_41, ean, hpa, ↓ld_42, hpb]
  · unfold fcS
    rcases (by omega : i = 0 ∨ i = 1 ∨ i = 2 ∨ i = 3 ∨ i = 4 ∨ i = 5 ∨ i = 6) with rfl | rfl | rfl | rfl | rfl | rfl | rfl <;> simp (disch := omega) only [lits, negs, nI_add, nn1, leT, leF, ltT, ltF, eqF, mF1, mF2, mF3, mF4, mF5, mF6, mTT, eq_self, Nat.reduceEqDiff, ↓reduceIte, jbd_s, jpu_e, tI0, tI1, jgd_tI, jgd_bb, tfF, ftF, jup_at, jup_oc, jup_ok]
    all_goals rfl
/-- how the reference answers, its names known -/
def anGo (h w l : Nat) (M : jMem) : Option (Unit × jMem) :=
  jld 2 M 113 (nI h) fun x31 =>
  if x31 = nI 0 then
    jbd (f_M_holdsE (nI h) M) fun x33 m34 =>
    if x33 = nI 0 then some ((), m34)
    else jbd (f_M_hasRoom (nI 1 <<< (M 121 l &&& nI 31)) m34) fun x35 m36 =>
      if x35 = nI 0 then some ((), m36)
      else jbd (f_M_written (nI w) (nI 1 <<< (M 121 l &&& nI 31)) (nI 0) (nI l) nM m36) fun _ m38 => some ((), m38)
  else
    jbd (f_M_holdsE (nI h) M) fun x39 m40 =>
    if x39 = nI 0 then some ((), m40)
    else jbd (f_M_hasRoom (nI 63 &&& ((nI 1 <<< (nI w &&& nI 31)) ^^^ nM)) m40) fun x41 m42 =>
      if x41 = nI 0 then some ((), m42)
      else jbd (f_M_written (nI w) (nI 63 &&& ((nI 1 <<< (nI w &&& nI 31)) ^^^ nM)) (nI 0) (nI l) nM m42) fun _ m44 => some ((), m44)
theorem lp_an {N h w l : Nat} {W : Nat → Int32} {k : jMem → Option (Unit × jMem)} (h30 : N ≤ 30) : ∀ (d n i : Nat) (M : jMem), i + d = N → d < n → M 109 33 = nI N → M 121 = W → M 118 6 = nI (fb_ct (fun x => decide (W x = nI w)) i) → ∃ M', lp_M_answers_121 (nI h) (nI w) (nI l) k n (nI i) M = k M' ∧ (∀ c, c ≠ 118 → M' c = M c) ∧ (∀ j, j ≠ 6 → M' 118 j = M 118 j) ∧ M' 118 6 = nI (fb_ct (fun x => decide (W x = nI w)) N) := by
  intro d
  induction d with
  | zero =>
    intro n i M hh hn h1 h2 h3
    obtain ⟨n, rfl⟩ := ex_succ hn
    have e : i = N := by omega
    subst e
    refine ⟨M, ?_, fun _ _ => rfl, fun _ _ => rfl, h3⟩
    unfold lp_M_answers_121
    simp (disch := omega) only [lits, negs, nI_add, nn1, leT, leF, ltT, ltF, eqF, mF1, mF2, mF3, mF4, mF5, mF6, mTT, eq_self, Nat.reduceEqDiff, ↓reduceIte, jbd_s, jpu_e, tI0, tI1, jgd_tI, jgd_bb, tfF, ftF, jup_at, jup_oc, jup_ok, h1]
  | succ d ih =>
    intro n i M hh hn h1 h2 h3
    obtain ⟨n, rfl⟩ := ex_succ hn
    by_cases q : W i = nI w
    · obtain ⟨M', e, f1, f2, f3⟩ := ih n (i + 1) (jup M 118 6 (nI (fb_ct (fun x => decide (W x = nI w)) i + 1))) (by omega) (by omega) (by rw [jup_oc (by omega)]; exact h1) (by rw [jup_oc (by omega)]; exact h2) (by rw [jup_at, fb_ct_succ, decide_eq_true q, if_pos rfl])
      refine ⟨M', ?_, fun c hc => by rw [f1 c hc, jup_oc hc], fun j hj => by rw [f2 j hj, jup_ok hj], f3⟩
      unfold lp_M_answers_121
      simp only [lits, negs]
      simp (disch := omega) only [lits, negs, nI_add, nn1, leT, leF, ltT, ltF, eqF, mF1, mF2, mF3, mF4, mF5, mF6, mTT, eq_self, Nat.reduceEqDiff, ↓reduceIte, ↓jbd_s, ↓jpu_e, tI0, tI1, jgd_tI, jgd_bb, tfF, ftF, jup_at, jup_oc, jup_ok, h1, ↓ld_118, h3, ↓ld_121, h2, q, ↓jb (e_Mis1 (m := M)), ↓st_118]
      exact e
    · obtain ⟨M', e, f1, f2, f3⟩ := ih n (i + 1) (jup M 118 6 (nI (fb_ct (fun x => decide (W x = nI w)) i))) (by omega) (by omega) (by rw [jup_oc (by omega)]; exact h1) (by rw [jup_oc (by omega)]; exact h2) (by rw [jup_at, fb_ct_succ, decide_eq_false q, if_neg (by decide), Nat.add_zero])
      refine ⟨M', ?_, fun c hc => by rw [f1 c hc, jup_oc hc], fun j hj => by rw [f2 j hj, jup_ok hj], f3⟩
      unfold lp_M_answers_121
      simp only [lits, negs]
      simp (disch := omega) only [lits, negs, nI_add, nn1, leT, leF, ltT, ltF, eqF, mF1, mF2, mF3, mF4, mF5, mF6, mTT, eq_self, Nat.reduceEqDiff, ↓reduceIte, ↓jbd_s, ↓jpu_e, tI0, tI1, jgd_tI, jgd_bb, tfF, ftF, jup_at, jup_oc, jup_ok, h1, ↓ld_118, h3, ↓ld_121, h2, q, ↓jb (e_Mis0 (m := M)), ↓st_118, Nat.add_zero]
      exact e
theorem e_ansM {N w l d h : Nat} {m M : jMem} (rl : RL2 N m M) (rk : RK2 N m M) (hw : w < 6) (hl : l < N) (hd : M 109 31 = nI d) : ∃ M', f_M_answers (nI h) (nI w) (nI l) M = anGo h w l M' ∧ (∀ c, c ≠ 118 → c ≠ 140 → M' c = M c) ∧ ∀ i, i < 7 → M' 118 i = fcS m N w l d i := by
  have h30 := rl.1
  obtain ⟨q1, q2, q3, -, q5, q6, -, q8⟩ := rl.2.2.2.1
  have hK : M 135 w = m 42 w ||| m 75 w := (rk.1 w hw).1
  have hK31 : bt (m 42 w ||| m 75 w) 31 = false := by
    cases q : bt (m 42 w ||| m 75 w) 31
    · rfl
    · rw [b_or, Bool.or_eq_true] at q
      rcases q with q | q
      · have := ((rl.2.2.2.2.2.1 w hw 31).mp q).1; omega
      · have := ((rk.1 w hw).2.1 31 q).1; omega
  obtain ⟨s1, -, s3⟩ := RL2_sum rl l hl
  let Mp : jMem := jup (jup (jup (jup M 118 0 (m 30 l)) 118 1 (m 32 l)) 118 2 (nI d - m 31 l)) 118 3 (nI (pcnt (m 42 w ||| m 75 w)))
  have hMp : ∀ c, c ≠ 118 → Mp c = M c := fun c hc => by
    show jup _ _ _ _ c = _
    simp (disch := omega) only [lits, negs, nI_add, nn1, leT, leF, ltT, ltF, eqF, mF1, mF2, mF3, mF4, mF5, mF6, mTT, eq_self, Nat.reduceEqDiff, ↓reduceIte, jbd_s, jpu_e, tI0, tI1, jgd_tI, jgd_bb, tfF, ftF, jup_at, jup_oc, jup_ok, hc]
  have hMp8 : Mp 128 = m 37 := by rw [hMp 128 (by omega)]; exact q8
  obtain ⟨Ms, es, fs⟩ := e_Msum (l := l) (s := sumV m) (m := Mp) (by omega) (fun y hy => by have := (RL2_sum rl y (by omega)).2.1; omega) (fun y hy => by rw [hMp8]; exact (RL2_sum rl y (by omega)).2.2)
  rw [hMp8, Nat.add_comm, ← s3, ← s1] at es
  obtain ⟨Mn, en, fn1, fn2, fn3⟩ := lp_an (N := N) (h := h) (w := w) (l := l) (W := m 30) (k := anGo h w l) h30 N 5000 0 (jup (jup (jup Ms 118 4 (m 41 l)) 118 5 (nI (nmB (m 34 l) (m 35 l)))) 118 6 (nI 0)) (by omega) (by omega) (by rw [jup_oc (by omega), jup_oc (by omega), jup_oc (by omega), fs 109 (by omega), hMp 109 (by omega)]; exact rl.2.2.1) (by rw [jup_oc (by omega), jup_oc (by omega), jup_oc (by omega), fs 121 (by omega), hMp 121 (by omega)]; exact q1) jup_at
  refine ⟨Mn, ?_, fun c h1 h2 => by rw [fn1 c h1, jup_oc h1, jup_oc h1, jup_oc h1, fs c h2, hMp c h1], fun i hi => ?_⟩
  · refine Eq.trans ?_ en
    have e5 : Ms 125 = m 34 := by rw [fs 125 (by omega), hMp 125 (by omega)]; exact q5
    have e6 : Ms 126 = m 35 := by rw [fs 126 (by omega), hMp 126 (by omega)]; exact q6
    unfold f_M_answers
    simp only [lits, negs]
    have es' : f_M_sumOf (nI l) (jup (jup (jup (jup M 118 0 (m 30 l)) 118 1 (m 32 l)) 118 2 (nI d - m 31 l)) 118 3 (nI (pcnt (m 42 w ||| m 75 w)))) = some (m 41 l, Ms) := es
    have n00 : m 34 l = nM → m 35 l = nM → nmB (m 34 l) (m 35 l) = 0 + 0 := fun a b => by unfold nmB; rw [if_pos a, if_pos b]
    have n01 : m 34 l = nM → ¬ m 35 l = nM → nmB (m 34 l) (m 35 l) = 0 + 1 := fun a b => by unfold nmB; rw [if_pos a, if_neg b]
    have n10 : ¬ m 34 l = nM → m 35 l = nM → nmB (m 34 l) (m 35 l) = 1 + 0 := fun a b => by unfold nmB; rw [if_neg a, if_pos b]
    have n11 : ¬ m 34 l = nM → ¬ m 35 l = nM → nmB (m 34 l) (m 35 l) = 1 + 1 := fun a b => by unfold nmB; rw [if_neg a, if_neg b]
    by_cases h1 : m 34 l = nM <;> by_cases h2 : m 35 l = nM
    · rw [n00 h1 h2]
      simp (disch := omega) only [lits, negs, nI_add, nn1, leT, leF, ltT, ltF, eqF, mF1, mF2, mF3, mF4, mF5, mF6, mTT, eq_self, Nat.reduceEqDiff, ↓reduceIte, ↓jbd_s, ↓jpu_e, tI0, tI1, jgd_tI, jgd_bb, tfF, ftF, jup_at, jup_oc, jup_ok, ↓ld_121, q1, ↓st_118, ↓ld_123, q3, ↓ld_122, q2, hd, ↓ld_135, hK, ↓jb (e_MbitsP hK31), ↓jb es', ↓ld_125, e5, ↓ld_126, e6, h1, h2, ↓jb (e_Mis0 (m := jup Ms 118 4 (m 41 l)))]
      rfl
    · rw [n01 h1 h2]
      simp (disch := omega) only [lits, negs, nI_add, nn1, leT, leF, ltT, ltF, eqF, mF1, mF2, mF3, mF4, mF5, mF6, mTT, eq_self, Nat.reduceEqDiff, ↓reduceIte, ↓jbd_s, ↓jpu_e, tI0, tI1, jgd_tI, jgd_bb, tfF, ftF, jup_at, jup_oc, jup_ok, ↓ld_121, q1, ↓st_118, ↓ld_123, q3, ↓ld_122, q2, hd, ↓ld_135, hK, ↓jb (e_MbitsP hK31), ↓jb es', ↓ld_125, e5, ↓ld_126, e6, h1, h2, ↓jb (e_Mis0 (m := jup Ms 118 4 (m 41 l))), ↓jb (e_Mis1 (m := jup Ms 118 4 (m 41 l)))]
      rfl
    · rw [n10 h1 h2]
      simp (disch := omega) only [lits, negs, nI_add, nn1, leT, leF, ltT, ltF, eqF, mF1, mF2, mF3, mF4, mF5, mF6, mTT, eq_self, Nat.reduceEqDiff, ↓reduceIte, ↓jbd_s, ↓jpu_e, tI0, tI1, jgd_tI, jgd_bb, tfF, ftF, jup_at, jup_oc, jup_ok, ↓ld_121, q1, ↓st_118, ↓ld_123, q3, ↓ld_122, q2, hd, ↓ld_135, hK, ↓jb (e_MbitsP hK31), ↓jb es', ↓ld_125, e5, ↓ld_126, e6, h1, h2, ↓jb (e_Mis0 (m := jup Ms 118 4 (m 41 l))), ↓jb (e_Mis1 (m := jup Ms 118 4 (m 41 l)))]
      rfl
    · rw [n11 h1 h2]
      simp (disch := omega) only [lits, negs, nI_add, nn1, leT, leF, ltT, ltF, eqF, mF1, mF2, mF3, mF4, mF5, mF6, mTT, eq_self, Nat.reduceEqDiff, ↓reduceIte, ↓jbd_s, ↓jpu_e, tI0, tI1, jgd_tI, jgd_bb, tfF, ftF, jup_at, jup_oc, jup_ok, ↓ld_121, q1, ↓st_118, ↓ld_123, q3, ↓ld_122, q2, hd, ↓ld_135, hK, ↓jb (e_MbitsP hK31), ↓jb es', ↓ld_125, e5, ↓ld_126, e6, h1, h2, ↓jb (e_Mis1 (m := jup Ms 118 4 (m 41 l)))]
      rfl
  · have fs8 : Ms 118 = Mp 118 := fs 118 (by omega)
    by_cases q : i = 6
    · subst q
      rw [fn3]
      rfl
    · rw [fn2 i q, jup_ok (by omega)]
      unfold fcS
      rcases (by omega : i = 0 ∨ i = 1 ∨ i = 2 ∨ i = 3 ∨ i = 4 ∨ i = 5) with rfl | rfl | rfl | rfl | rfl | rfl
      · rw [jup_ok (by omega), jup_ok (by omega), fs8]; show jup _ _ _ _ 118 0 = _; simp (disch := omega) only [lits, negs, nI_add, nn1, leT, leF, ltT, ltF, eqF, mF1, mF2, mF3, mF4, mF5, mF6, mTT, eq_self, Nat.reduceEqDiff, ↓reduceIte, jbd_s, jpu_e, tI0, tI1, jgd_tI, jgd_bb, tfF, ftF, jup_at, jup_oc, jup_ok]
      · rw [jup_ok (by omega), jup_ok (by omega), fs8]; show jup _ _ _ _ 118 1 = _; simp (disch := omega) only [lits, negs, nI_add, nn1, leT, leF, ltT, ltF, eqF, mF1, mF2, mF3, mF4, mF5, mF6, mTT, eq_self, Nat.reduceEqDiff, ↓reduceIte, jbd_s, jpu_e, tI0, tI1, jgd_tI, jgd_bb, tfF, ftF, jup_at, jup_oc, jup_ok]
      · rw [jup_ok (by omega), jup_ok (by omega), fs8]; show jup _ _ _ _ 118 2 = _; simp (disch := omega) only [lits, negs, nI_add, nn1, leT, leF, ltT, ltF, eqF, mF1, mF2, mF3, mF4, mF5, mF6, mTT, eq_self, Nat.reduceEqDiff, ↓reduceIte, jbd_s, jpu_e, tI0, tI1, jgd_tI, jgd_bb, tfF, ftF, jup_at, jup_oc, jup_ok]
      · rw [jup_ok (by omega), jup_ok (by omega), fs8]; show jup _ _ _ _ 118 3 = _; simp (disch := omega) only [lits, negs, nI_add, nn1, leT, leF, ltT, ltF, eqF, mF1, mF2, mF3, mF4, mF5, mF6, mTT, eq_self, Nat.reduceEqDiff, ↓reduceIte, jbd_s, jpu_e, tI0, tI1, jgd_tI, jgd_bb, tfF, ftF, jup_at, jup_oc, jup_ok]
      · rw [jup_ok (by omega), jup_at]; rfl
      · rw [jup_at]; rfl
