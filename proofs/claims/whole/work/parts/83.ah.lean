/-! orders told: does one lead to another -/
def oP (P : Nat → Int32) (x : Int32) : Nat → Int32
  | 0 => x
  | i + 1 => if P i &&& oP P x i = nI 0 then oP P x i else oP P x i ||| sb i
def oT (A B : Nat → Nat) (x : Int32) : Nat → Int32
  | 0 => x
  | i + 1 => if bt (oT A B x i) (A i) = true then oT A B x i ||| sb (B i) else oT A B x i
theorem oP_succ (P : Nat → Int32) (x : Int32) (i : Nat) : oP P x (i + 1) = if P i &&& oP P x i = nI 0 then oP P x i else oP P x i ||| sb i := rfl
theorem oT_succ (A B : Nat → Nat) (x : Int32) (i : Nat) : oT A B x (i + 1) = if bt (oT A B x i) (A i) = true then oT A B x i ||| sb (B i) else oT A B x i := rfl
def oR (P : Nat → Int32) (A B : Nat → Nat) (N p : Nat) (x : Int32) : Int32 := oT A B (oP P x N) p
def oI8 (P : Nat → Int32) (A B : Nat → Nat) (N p : Nat) (x : Int32) : Nat → Int32
  | 0 => x
  | k + 1 => oR P A B N p (oI8 P A B N p x k)
theorem lp_Cga18 {N : Nat} {v1 v4 x : Int32} {k : Int32 → jMem → Option (Int32 × jMem)} {m : jMem} (h30 : N ≤ 30) (hN : m 29 15 = nI N) : ∀ (d n i : Nat), i + d = N → d < n → lp_O_goesAgainst_18 v1 v4 k n (oP (m 37) x i) (nI i) m = k (oP (m 37) x N) m := by
  intro d
  induction d with
  | zero =>
    intro n i hid hdn
    obtain ⟨n, rfl⟩ := ex_succ hdn
    rw [show i = N by omega]
    unfold lp_O_goesAgainst_18
    simp (disch := omega) only [lits, negs, nI_add, nn1, leT, leF, ltT, ltF, eqF, mF1, mF2, mF3, mF4, mF5, mF6, mTT, eq_self, Nat.reduceEqDiff, ↓reduceIte, jbd_s, jpu_e, tI0, tI1, jgd_tI, jgd_bb, tfF, ftF, jup_at, jup_oc, jup_ok, hN]
  | succ d ih =>
    intro n i hid hdn
    obtain ⟨n, rfl⟩ := ex_succ hdn
    have e := ih n (i + 1) (by omega) (by omega)
    unfold lp_O_goesAgainst_18
    rw [oP_succ] at e
    simp only [lits]
    by_cases q : m 37 i &&& oP (m 37) x i = nI 0
    · rw [if_pos q] at e
      simp (disch := omega) only [lits, negs, nI_add, nn1, leT, leF, ltT, ltF, eqF, mF1, mF2, mF3, mF4, mF5, mF6, mTT, eq_self, Nat.reduceEqDiff, ↓reduceIte, ↓jbd_s, ↓jpu_e, tI0, tI1, jgd_tI, jgd_bb, tfF, ftF, jup_at, jup_oc, jup_ok, hN, ↓ld_37, q]
      exact e
    · rw [if_neg q] at e
      simp (disch := omega) only [lits, negs, nI_add, nn1, leT, leF, ltT, ltF, eqF, mF1, mF2, mF3, mF4, mF5, mF6, mTT, eq_self, Nat.reduceEqDiff, ↓reduceIte, ↓jbd_s, ↓jpu_e, tI0, tI1, jgd_tI, jgd_bb, tfF, ftF, jup_at, jup_oc, jup_ok, hN, ↓ld_37, q, ↓jb (e_bit (m := m) i)]
      exact e
theorem lp_Mle19 {N : Nat} {P : Nat → Int32} {v2 v4 x : Int32} {k : Int32 → jMem → Option (Int32 × jMem)} {M : jMem} (h30 : N ≤ 30) (hN : M 109 33 = nI N) (hP : M 128 = P) : ∀ (d n i : Nat), i + d = N → d < n → lp_M_leads_19 v2 v4 k n (oP P x i) (nI i) M = k (oP P x N) M := by
  intro d
  induction d with
  | zero =>
    intro n i hid hdn
    obtain ⟨n, rfl⟩ := ex_succ hdn
    rw [show i = N by omega]
    unfold lp_M_leads_19
    simp (disch := omega) only [lits, negs, nI_add, nn1, leT, leF, ltT, ltF, eqF, mF1, mF2, mF3, mF4, mF5, mF6, mTT, eq_self, Nat.reduceEqDiff, ↓reduceIte, jbd_s, jpu_e, tI0, tI1, jgd_tI, jgd_bb, tfF, ftF, jup_at, jup_oc, jup_ok, hN]
  | succ d ih =>
    intro n i hid hdn
    obtain ⟨n, rfl⟩ := ex_succ hdn
    have e := ih n (i + 1) (by omega) (by omega)
    unfold lp_M_leads_19
    rw [oP_succ] at e
    simp only [lits]
    by_cases q : P i &&& oP P x i = nI 0
    · rw [if_pos q] at e
      simp (disch := omega) only [lits, negs, nI_add, nn1, leT, leF, ltT, ltF, eqF, mF1, mF2, mF3, mF4, mF5, mF6, mTT, eq_self, Nat.reduceEqDiff, ↓reduceIte, ↓jbd_s, ↓jpu_e, tI0, tI1, jgd_tI, jgd_bb, tfF, ftF, jup_at, jup_oc, jup_ok, hN, ↓ld_128, hP, q]
      exact e
    · rw [if_neg q] at e
      simp (disch := omega) only [lits, negs, nI_add, nn1, leT, leF, ltT, ltF, eqF, mF1, mF2, mF3, mF4, mF5, mF6, mTT, eq_self, Nat.reduceEqDiff, ↓reduceIte, ↓jbd_s, ↓jpu_e, tI0, tI1, jgd_tI, jgd_bb, tfF, ftF, jup_at, jup_oc, jup_ok, hN, ↓ld_128, hP, q, sb_e]
      exact e
theorem lp_Cga62 {p : Nat} {A B : Nat → Nat} {v1 v4 x : Int32} {k : Int32 → jMem → Option (Int32 × jMem)} {m : jMem} (h12 : p ≤ 12) (hp : m 89 3 = nI p) (hA : ∀ k, k < p → m 90 k = nI (A k) ∧ A k < 30) (hB : ∀ k, k < p → m 91 k = nI (B k)) : ∀ (d n i : Nat), i + d = p → d < n → lp_O_goesAgainst_62 v1 v4 k n (oT A B x i) (nI i) m = k (oT A B x p) m := by
  intro d
  induction d with
  | zero =>
    intro n i hid hdn
    obtain ⟨n, rfl⟩ := ex_succ hdn
    rw [show i = p by omega]
    unfold lp_O_goesAgainst_62
    simp (disch := omega) only [lits, negs, nI_add, nn1, leT, leF, ltT, ltF, eqF, mF1, mF2, mF3, mF4, mF5, mF6, mTT, eq_self, Nat.reduceEqDiff, ↓reduceIte, jbd_s, jpu_e, tI0, tI1, jgd_tI, jgd_bb, tfF, ftF, jup_at, jup_oc, jup_ok, hp]
  | succ d ih =>
    intro n i hid hdn
    obtain ⟨n, rfl⟩ := ex_succ hdn
    have e := ih n (i + 1) (by omega) (by omega)
    unfold lp_O_goesAgainst_62
    rw [oT_succ] at e
    simp only [lits]
    cases q : bt (oT A B x i) (A i)
    · rw [q, if_neg (by decide)] at e
      simp (disch := omega) only [lits, negs, nI_add, nn1, leT, leF, ltT, ltF, eqF, mF1, mF2, mF3, mF4, mF5, mF6, mTT, eq_self, Nat.reduceEqDiff, ↓reduceIte, ↓jbd_s, ↓jpu_e, tI0, tI1, jgd_tI, jgd_bb, tfF, ftF, jup_at, jup_oc, jup_ok, hp, ↓ld_90, (hA i (by omega)).1, ↓jb (e_isIn (v := oT A B x i) (m := m) (hA i (by omega)).2), q]
      exact e
    · rw [q, if_pos rfl] at e
      simp (disch := omega) only [lits, negs, nI_add, nn1, leT, leF, ltT, ltF, eqF, mF1, mF2, mF3, mF4, mF5, mF6, mTT, eq_self, Nat.reduceEqDiff, ↓reduceIte, ↓jbd_s, ↓jpu_e, tI0, tI1, jgd_tI, jgd_bb, tfF, ftF, jup_at, jup_oc, jup_ok, hp, ↓ld_90, (hA i (by omega)).1, ↓jb (e_isIn (v := oT A B x i) (m := m) (hA i (by omega)).2), q, ↓ld_91, hB i (by omega), ↓jb (e_bit (m := m) (B i))]
      exact e
theorem lp_Mle56 {p : Nat} {A B : Nat → Nat} {v2 v4 x : Int32} {k : Int32 → jMem → Option (Int32 × jMem)} {M : jMem} (h12 : p ≤ 12) (hp : M 109 64 = nI p) (hA : ∀ k, k < p → M 144 k = nI (A k) ∧ A k < 30) (hB : ∀ k, k < p → M 145 k = nI (B k)) : ∀ (d n i : Nat), i + d = p → d < n → lp_M_leads_56 v2 v4 k n (oT A B x i) (nI i) M = k (oT A B x p) M := by
  intro d
  induction d with
  | zero =>
    intro n i hid hdn
    obtain ⟨n, rfl⟩ := ex_succ hdn
    rw [show i = p by omega]
    unfold lp_M_leads_56
    simp (disch := omega) only [lits, negs, nI_add, nn1, leT, leF, ltT, ltF, eqF, mF1, mF2, mF3, mF4, mF5, mF6, mTT, eq_self, Nat.reduceEqDiff, ↓reduceIte, jbd_s, jpu_e, tI0, tI1, jgd_tI, jgd_bb, tfF, ftF, jup_at, jup_oc, jup_ok, hp]
  | succ d ih =>
    intro n i hid hdn
    obtain ⟨n, rfl⟩ := ex_succ hdn
    have e := ih n (i + 1) (by omega) (by omega)
    unfold lp_M_leads_56
    rw [oT_succ] at e
    simp only [lits]
    have hai := (hA i (by omega)).2
    cases q : bt (oT A B x i) (A i)
    · rw [q, if_neg (by decide)] at e
      simp (disch := omega) only [lits, negs, nI_add, nn1, leT, leF, ltT, ltF, eqF, mF1, mF2, mF3, mF4, mF5, mF6, mTT, eq_self, Nat.reduceEqDiff, ↓reduceIte, ↓jbd_s, ↓jpu_e, tI0, tI1, jgd_tI, jgd_bb, tfF, ftF, jup_at, jup_oc, jup_ok, hp, ↓ld_144, (hA i (by omega)).1, bit1, q]
      exact e
    · rw [q, if_pos rfl] at e
      simp (disch := omega) only [lits, negs, nI_add, nn1, leT, leF, ltT, ltF, eqF, mF1, mF2, mF3, mF4, mF5, mF6, mTT, eq_self, Nat.reduceEqDiff, ↓reduceIte, ↓jbd_s, ↓jpu_e, tI0, tI1, jgd_tI, jgd_bb, tfF, ftF, jup_at, jup_oc, jup_ok, hp, ↓ld_144, (hA i (by omega)).1, bit1, q, ↓ld_145, hB i (by omega), sb_e]
      exact e
theorem oP_in {P : Nat → Int32} {x : Int32} {N j : Nat} (hx : ∀ j, bt x j = true → j < N) : ∀ i, i ≤ N → bt (oP P x i) j = true → j < N := by
  intro i
  induction i with
  | zero => intro _ h; exact hx j h
  | succ i ih =>
    intro hi h
    rw [oP_succ] at h
    split at h
    · exact ih (by omega) h
    · have hj := bt_big h
      rw [b_or, Bool.or_eq_true] at h
      rcases h with h | h
      · exact ih (by omega) h
      · by_cases q : i < 32
        · rw [b_sb q hj, decide_eq_true_iff] at h
          omega
        · omega
theorem oP_up {P : Nat → Int32} {x : Int32} {j : Nat} (h : bt x j = true) : ∀ i, bt (oP P x i) j = true := by
  intro i
  induction i with
  | zero => exact h
  | succ i ih =>
    rw [oP_succ]
    split
    · exact ih
    · rw [b_or, ih, Bool.true_or]
theorem oT_in {A B : Nat → Nat} {x : Int32} {N p j : Nat} (h30 : N ≤ 30) (hx : ∀ j, bt x j = true → j < N) (hB : ∀ k, k < p → B k < N) : ∀ i, i ≤ p → bt (oT A B x i) j = true → j < N := by
  intro i
  induction i with
  | zero => intro _ h; exact hx j h
  | succ i ih =>
    intro hi h
    rw [oT_succ] at h
    split at h
    · have hj := bt_big h
      have hb := hB i (by omega)
      rw [b_or, Bool.or_eq_true] at h
      rcases h with h | h
      · exact ih (by omega) h
      · rw [b_sb (by omega) hj, decide_eq_true_iff] at h
        omega
    · exact ih (by omega) h
theorem oT_up {A B : Nat → Nat} {x : Int32} {j : Nat} (h : bt x j = true) : ∀ i, bt (oT A B x i) j = true := by
  intro i
  induction i with
  | zero => exact h
  | succ i ih =>
    rw [oT_succ]
    split
    · rw [b_or, ih, Bool.true_or]
    · exact ih
theorem pcnt_sub {x y : Int32} (h : ∀ j, bt x j = true → bt y j = true) (hne : ¬ x = y) : pcnt x + 1 ≤ pcnt y := by
  refine Classical.byContradiction fun hc => hne (b_ext fun j hj => ?_)
  cases q : bt y j
  · cases q2 : bt x j
    · rfl
    · rw [h j q2] at q; exact q
  · cases q2 : bt x j
    · exfalso
      have e := pcnt_add (x := x) hj q2
      have : pcnt (x ||| sb j) ≤ pcnt y := by
        unfold pcnt
        exact fb_ct_sub fun k hk hb => by
          rw [b_or, Bool.or_eq_true] at hb
          rcases hb with hb | hb
          · exact h k hb
          · rw [b_sb hj hk, decide_eq_true_iff] at hb
            rw [hb]; exact q
      omega
    · rfl
theorem pcnt_lim {x : Int32} {N : Nat} (h : ∀ j, bt x j = true → j < N) (hN : N ≤ 32) : pcnt x ≤ N := by
  unfold pcnt
  rw [ct_top (n := N) hN (fun j h1 _ => by
    cases q : bt x j
    · rfl
    · have := h j q; omega)]
  exact fb_ct_le _ _
section
variable {P : Nat → Int32} {A B : Nat → Nat} {N p : Nat} {x : Int32}
theorem oI8_in (h30 : N ≤ 30) (hx : ∀ j, bt x j = true → j < N) (hB : ∀ k, k < p → B k < N) : ∀ k j, bt (oI8 P A B N p x k) j = true → j < N := by
  intro k
  induction k with
  | zero => exact hx
  | succ k ih =>
    intro j h
    exact oT_in h30 (fun j h => oP_in ih N (Nat.le_refl N) h) hB p (Nat.le_refl p) h
theorem oI8_up (k : Nat) {j : Nat} (h : bt (oI8 P A B N p x k) j = true) : bt (oI8 P A B N p x (k + 1)) j = true := oT_up (oP_up h N) p
theorem oI8_st {k : Nat} (h : oI8 P A B N p x (k + 1) = oI8 P A B N p x k) : ∀ d, oI8 P A B N p x (k + d) = oI8 P A B N p x k := by
  intro d
  induction d with
  | zero => rfl
  | succ d ih =>
    show oR P A B N p (oI8 P A B N p x (k + d)) = _
    rw [ih]
    exact h
theorem oI8_fix (h30 : N ≤ 30) (hx : ∀ j, bt x j = true → j < N) (h0 : ¬ x = nI 0) (hB : ∀ k, k < p → B k < N) : oI8 P A B N p x 30 = oI8 P A B N p x 29 := by
  have key : ∀ k, (∃ i, i < k ∧ oI8 P A B N p x (i + 1) = oI8 P A B N p x i) ∨ k + 1 ≤ pcnt (oI8 P A B N p x k) := by
    intro k
    induction k with
    | zero =>
      refine Or.inr ?_
      have := pcnt_sub (x := nI 0) (y := x) (fun j h => by rw [b_n0] at h; exact absurd h (by decide)) (fun e => h0 e.symm)
      rw [pcnt_0] at this
      exact this
    | succ k ih =>
      rcases ih with ⟨i, hi, e⟩ | h
      · exact Or.inl ⟨i, by omega, e⟩
      · by_cases q : oI8 P A B N p x (k + 1) = oI8 P A B N p x k
        · exact Or.inl ⟨k, by omega, q⟩
        · have := pcnt_sub (x := oI8 P A B N p x k) (y := oI8 P A B N p x (k + 1)) (fun j => oI8_up k) (fun e => q e.symm)
          exact Or.inr (by omega)
  rcases key 30 with ⟨i, hi, e⟩ | h
  · have a := oI8_st e (30 - i)
    have b := oI8_st e (29 - i)
    rw [show i + (30 - i) = 30 by omega] at a
    rw [show i + (29 - i) = 29 by omega] at b
    rw [a, b]
  · have := pcnt_lim (x := oI8 P A B N p x 30) (oI8_in h30 hx hB 30) (by omega)
    omega
end
theorem Rel2_ah {N C : Nat} {m m' M M' : jMem} (e : ∀ c, c ≠ 89 → c ≠ 90 → c ≠ 91 → m' c = m c) (g : ∀ c, c ≠ 109 → c ≠ 109 → c ≠ 144 → c ≠ 145 → M' c = M c) (g9 : ∀ k, k ≠ 0 → k ≠ 64 → M' 109 k = M 109 k) (rp : RP2 N m' M') (r : Rel2 N C m M) : Rel2 N C m' M' := by
  obtain ⟨r1, r2, r3, r4, r5, r6, r7, r8, r9, -, r11⟩ := r
  refine ⟨?_, ?_, ?_, ?_, ?_, ?_, ?_, ?_, ?_, rp, ?_⟩
  · obtain ⟨a1, a2, a3, a4, a5, a6, a7⟩ := r1
    refine ⟨a1, by rw [e 29 (by omega) (by omega) (by omega)]; exact a2, by rw [g9 33 (by omega) (by omega)]; exact a3, ?_, fun l hl => RLl_cong (fun c _ _ => e c (by omega) (by omega) (by omega)) (a5 l hl), ?_, ?_⟩
    · rw [e 30 (by omega) (by omega) (by omega), e 31 (by omega) (by omega) (by omega), e 32 (by omega) (by omega) (by omega), e 33 (by omega) (by omega) (by omega), e 34 (by omega) (by omega) (by omega), e 35 (by omega) (by omega) (by omega), e 36 (by omega) (by omega) (by omega), e 37 (by omega) (by omega) (by omega), g 121 (by omega) (by omega) (by omega) (by omega), g 122 (by omega) (by omega) (by omega) (by omega), g 123 (by omega) (by omega) (by omega) (by omega), g 124 (by omega) (by omega) (by omega) (by omega), g 125 (by omega) (by omega) (by omega) (by omega), g 126 (by omega) (by omega) (by omega) (by omega), g 127 (by omega) (by omega) (by omega) (by omega), g 128 (by omega) (by omega) (by omega) (by omega)]
      exact a4
    · rw [e 42 (by omega) (by omega) (by omega), e 30 (by omega) (by omega) (by omega)]; exact a6
    · rw [e 43 (by omega) (by omega) (by omega), e 33 (by omega) (by omega) (by omega)]; exact a7
  · unfold RB2
    rw [e 29 (by omega) (by omega) (by omega), g9 43 (by omega) (by omega), g 129 (by omega) (by omega) (by omega) (by omega)]
    exact r2
  · unfold RT2
    rw [e 1 (by omega) (by omega) (by omega), e 2 (by omega) (by omega) (by omega), g9 2 (by omega) (by omega), g 110 (by omega) (by omega) (by omega) (by omega)]
    exact r3
  · unfold RD2
    rw [e 1 (by omega) (by omega) (by omega), g9 31 (by omega) (by omega)]
    exact r4
  · obtain ⟨W, w1, w2⟩ := r5
    refine ⟨W, fun a ha b hb => ?_, w2⟩
    rw [e (47 + a) (by omega) (by omega) (by omega), e (54 + a) (by omega) (by omega) (by omega), g 120 (by omega) (by omega) (by omega) (by omega)]
    exact w1 a ha b hb
  · unfold RS2
    rw [e 45 (by omega) (by omega) (by omega), g9 50 (by omega) (by omega), g9 51 (by omega) (by omega), g9 52 (by omega) (by omega)]
    exact r6
  · unfold RC2
    rw [e 45 (by omega) (by omega) (by omega), e 60 (by omega) (by omega) (by omega), e 61 (by omega) (by omega) (by omega), e 62 (by omega) (by omega) (by omega), e 63 (by omega) (by omega) (by omega), e 64 (by omega) (by omega) (by omega), g9 44 (by omega) (by omega), g 130 (by omega) (by omega) (by omega) (by omega), g 131 (by omega) (by omega) (by omega) (by omega), g 132 (by omega) (by omega) (by omega) (by omega), g 133 (by omega) (by omega) (by omega) (by omega), g 134 (by omega) (by omega) (by omega) (by omega)]
    exact r7
  · obtain ⟨k1, k2⟩ := r8
    refine ⟨fun w hw => ?_, by rw [e 75 (by omega) (by omega) (by omega), g9 57 (by omega) (by omega)]; exact k2⟩
    unfold RKw2
    rw [e 42 (by omega) (by omega) (by omega), e 75 (by omega) (by omega) (by omega), e 30 (by omega) (by omega) (by omega), e 31 (by omega) (by omega) (by omega), e (77 + w) (by omega) (by omega) (by omega), g 135 (by omega) (by omega) (by omega) (by omega), g 136 (by omega) (by omega) (by omega) (by omega)]
    exact k1 w hw
  · intro w hw
    have := r9 w hw
    unfold RHw2 at this ⊢
    rw [e 73 (by omega) (by omega) (by omega), e 74 (by omega) (by omega) (by omega), e 75 (by omega) (by omega) (by omega), e 30 (by omega) (by omega) (by omega), e (67 + w) (by omega) (by omega) (by omega), g 137 (by omega) (by omega) (by omega) (by omega), g 138 (by omega) (by omega) (by omega) (by omega)]
    exact this
  · exact RX2_fr ⟨by rw [e 1 (by omega) (by omega) (by omega)], by rw [e 1 (by omega) (by omega) (by omega)], by rw [e 21 (by omega) (by omega) (by omega)], by rw [e 21 (by omega) (by omega) (by omega)], fun c _ _ _ => e c (by omega) (by omega) (by omega)⟩ ⟨g9 23 (by omega) (by omega), g9 24 (by omega) (by omega), g9 6 (by omega) (by omega), g9 11 (by omega) (by omega), fun c _ _ => g c (by omega) (by omega) (by omega) (by omega)⟩ r11
