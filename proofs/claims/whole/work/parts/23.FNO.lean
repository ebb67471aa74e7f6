def W_N_moveOver : List (Nat × Nat) := [(85, 0), (86, 0)]
theorem fr_lp_N_moveOver_4 {m0 : jMem} (k57 : jMem → Option (Unit × jMem))
    (hk57 : ∀ (m : jMem) (r : (Unit × jMem)), jfr W_N_moveOver m0 m → k57 m = some r → jfr W_N_moveOver m0 r.2) : ∀ (n : Nat) (v2 : Int32) (v3 : Int32) (m : jMem) (r : (Unit × jMem)), jfr W_N_moveOver m0 m → lp_N_moveOver_4 k57 n v2 v3 m = some r → jfr W_N_moveOver m0 r.2 := by
  intro n
  induction n with
  | zero => intro v2 v3 m r hf h; unfold lp_N_moveOver_4 at h; cases h
  | succ n ih =>
    intro v2 v3 m r hf h
    unfold lp_N_moveOver_4 at h
    refine jem (p := (30 : Int32) ≤ v3) (fun c => ?_) (fun c => ?_)
    · rw [if_pos c] at h
      exact hk57  m _ hf h
    · rw [if_neg c] at h
      refine jem (p := v2 = (-1 : Int32)) (fun c => ?_) (fun c => ?_)
      · rw [if_pos c] at h
        exact hk57  m _ hf h
      · rw [if_neg c] at h
        obtain ⟨x1, ex1, g, h⟩ := jld_some h
        obtain ⟨x2, ex2, g, h⟩ := jld_some h
        obtain ⟨m3, hm3, g, h⟩ := jst_some h
        replace hf := jfr_tr hf (jfr_ua hm3 rfl)
        obtain ⟨m4, hm4, g, h⟩ := jst_some h
        replace hf := jfr_tr hf (jfr_ua hm4 rfl)
        exact ih x2 (v3 + (1 : Int32)) m4 _ hf h
theorem fr_N_moveOver {v1 : Int32} {m : jMem} {r : (Unit × jMem)} (h : f_N_moveOver v1 m = some r) : jfr W_N_moveOver m r.2 := by
  unfold f_N_moveOver at h
  have hf : jfr W_N_moveOver m m := jfr_rf
  refine fr_lp_N_moveOver_4 _ ?_ _ v1 (0 : Int32) m _ hf h
  intro m5 r hf h
  cases h
  exact hf

def W_N_putOneBehind : List (Nat × Nat) := [(85, 0), (86, 0), (87, 0), (88, 0)]
theorem fr_lp_N_putOneBehind_31 {m0 : jMem} (v2 : Int32) (v5 : Int32) (k115 : Int32 → jMem → Option (Int32 × jMem)) (k151 : Int32 → Int32 → jMem → Option (Int32 × jMem))
    (hk115 : ∀ (v6 : Int32) (m : jMem) (r : (Int32 × jMem)), jfr W_N_putOneBehind m0 m → k115 v6 m = some r → jfr W_N_putOneBehind m0 r.2)
    (hk151 : ∀ (v3 : Int32) (v4 : Int32) (m : jMem) (r : (Int32 × jMem)), jfr W_N_putOneBehind m0 m → k151 v3 v4 m = some r → jfr W_N_putOneBehind m0 r.2) : ∀ (n : Nat) (v3 : Int32) (v4 : Int32) (v6 : Int32) (m : jMem) (r : (Int32 × jMem)), jfr W_N_putOneBehind m0 m → lp_N_putOneBehind_31 v2 v5 k115 k151 n v3 v4 v6 m = some r → jfr W_N_putOneBehind m0 r.2 := by
  intro n
  induction n with
  | zero => intro v3 v4 v6 m r hf h; unfold lp_N_putOneBehind_31 at h; cases h
  | succ n ih =>
    intro v3 v4 v6 m r hf h
    unfold lp_N_putOneBehind_31 at h
    refine jem (p := (m 29 15) ≤ v6) (fun c => ?_) (fun c => ?_)
    · rw [if_pos c] at h
      exact hk151 v3 v4 m _ hf h
    · rw [if_neg c] at h
      obtain ⟨x2, m3, zm3, h⟩ := jbd_some h
      replace hf := jfr_tr hf (jfr_sub (W := W_C_isIn) rfl (fr_C_isIn zm3))
      refine jem (p := x2 = 0) (fun c => ?_) (fun c => ?_)
      · rw [if_pos c] at h
        exact ih v3 v4 (v6 + (1 : Int32)) m3 _ hf h
      · rw [if_neg c] at h
        obtain ⟨x4, ex4, g, h⟩ := jld_some h
        obtain ⟨x5, ex5, g, h⟩ := jld_some h
        obtain ⟨x6, m7, zm7, h⟩ := jbd_some h
        replace hf := jfr_tr hf (jfr_sub (W := W_C_isIn) rfl (fr_C_isIn zm7))
        refine jem (p := x6 = 0) (fun c => ?_) (fun c => ?_)
        · rw [if_pos c] at h
          exact ih v3 v4 (v6 + (1 : Int32)) m7 _ hf h
        · rw [if_neg c] at h
          obtain ⟨x8, m9, zm9, h⟩ := jbd_some h
          replace hf := jfr_tr hf (jfr_sub (W := W_C_bit) rfl (fr_C_bit zm9))
          obtain ⟨x10, ex10, g, h⟩ := jld_some h
          obtain ⟨m11, hm11, g, h⟩ := jst_some h
          replace hf := jfr_tr hf (jfr_ua hm11 rfl)
          obtain ⟨x12, ex12, g, h⟩ := jld_some h
          refine jem_ne (p := x12 = (-1 : Int32)) (fun c => ?_) (fun c => ?_)
          · rw [if_neg c] at h
            refine jem (p := (30 : Int32) ≤ v3) (fun c => ?_) (fun c => ?_)
            · rw [if_pos c] at h
              exact ih v3 (v4 ||| x8) (v6 + (1 : Int32)) m11 _ hf h
            · rw [if_neg c] at h
              obtain ⟨x13, ex13, g, h⟩ := jld_some h
              obtain ⟨m14, hm14, g, h⟩ := jst_some h
              replace hf := jfr_tr hf (jfr_ua hm14 rfl)
              exact ih (v3 + (1 : Int32)) (v4 ||| x8) (v6 + (1 : Int32)) m14 _ hf h
          · rw [if_pos c] at h
            exact hk115 v6 m11 _ hf h
theorem fr_lp_N_putOneBehind_15 {m0 : jMem} (v2 : Int32) (k115 : Int32 → jMem → Option (Int32 × jMem)) (k157 : jMem → Option (Int32 × jMem))
    (hk115 : ∀ (v6 : Int32) (m : jMem) (r : (Int32 × jMem)), jfr W_N_putOneBehind m0 m → k115 v6 m = some r → jfr W_N_putOneBehind m0 r.2)
    (hk157 : ∀ (m : jMem) (r : (Int32 × jMem)), jfr W_N_putOneBehind m0 m → k157 m = some r → jfr W_N_putOneBehind m0 r.2) : ∀ (n : Nat) (v3 : Int32) (v4 : Int32) (v5 : Int32) (m : jMem) (r : (Int32 × jMem)), jfr W_N_putOneBehind m0 m → lp_N_putOneBehind_15 v2 k115 k157 n v3 v4 v5 m = some r → jfr W_N_putOneBehind m0 r.2 := by
  intro n
  induction n with
  | zero => intro v3 v4 v5 m r hf h; unfold lp_N_putOneBehind_15 at h; cases h
  | succ n ih =>
    intro v3 v4 v5 m r hf h
    unfold lp_N_putOneBehind_15 at h
    refine jem (p := v3 ≤ v5) (fun c => ?_) (fun c => ?_)
    · rw [if_pos c] at h
      exact hk157  m _ hf h
    · rw [if_neg c] at h
      refine jem (p := (30 : Int32) ≤ v5) (fun c => ?_) (fun c => ?_)
      · rw [if_pos c] at h
        exact hk157  m _ hf h
      · rw [if_neg c] at h
        refine fr_lp_N_putOneBehind_31 v2 v5 _ _ ?_ ?_ _ v3 v4 (0 : Int32) m _ hf h
        · intro w16 m15 r hf h
          exact hk115 w16 m15 _ hf h
        · intro w18 w19 m17 r hf h
          exact ih w18 w19 (v5 + (1 : Int32)) m17 _ hf h
theorem fr_N_putOneBehind {v1 : Int32} {v2 : Int32} {m : jMem} {r : (Int32 × jMem)} (h : f_N_putOneBehind v1 v2 m = some r) : jfr W_N_putOneBehind m r.2 := by
  unfold f_N_putOneBehind at h
  have hf : jfr W_N_putOneBehind m m := jfr_rf
  obtain ⟨m1, hm1, g, h⟩ := jst_some h
  replace hf := jfr_tr hf (jfr_ua hm1 rfl)
  refine fr_lp_N_putOneBehind_15 v2 _ _ ?_ ?_ _ (1 : Int32) (0 : Int32) (0 : Int32) m1 _ hf h
  · intro w21 m20 r hf h
    obtain ⟨u22, m23, zm23, h⟩ := jbd_some h
    replace hf := jfr_tr hf (jfr_sub (W := W_N_moveOver) rfl (fr_N_moveOver zm23))
    cases h
    exact hf
  · intro m24 r hf h
    cases h
    exact hf

def W_N_fewest : List (Nat × Nat) := [(85, 0), (86, 0), (87, 0), (88, 0)]
theorem fr_lp_N_fewest_2 {m0 : jMem} (v1 : Int32) (k28 : jMem → Option (Int32 × jMem))
    (hk28 : ∀ (m : jMem) (r : (Int32 × jMem)), jfr W_N_fewest m0 m → k28 m = some r → jfr W_N_fewest m0 r.2) : ∀ (n : Nat) (v2 : Int32) (m : jMem) (r : (Int32 × jMem)), jfr W_N_fewest m0 m → lp_N_fewest_2 v1 k28 n v2 m = some r → jfr W_N_fewest m0 r.2 := by
  intro n
  induction n with
  | zero => intro v2 m r hf h; unfold lp_N_fewest_2 at h; cases h
  | succ n ih =>
    intro v2 m r hf h
    unfold lp_N_fewest_2 at h
    refine jem (p := (30 : Int32) ≤ v2) (fun c => ?_) (fun c => ?_)
    · rw [if_pos c] at h
      exact hk28  m _ hf h
    · rw [if_neg c] at h
      obtain ⟨m1, hm1, g, h⟩ := jst_some h
      replace hf := jfr_tr hf (jfr_ua hm1 rfl)
      obtain ⟨m2, hm2, g, h⟩ := jst_some h
      replace hf := jfr_tr hf (jfr_ua hm2 rfl)
      exact ih (v2 + (1 : Int32)) m2 _ hf h
theorem fr_lp_N_fewest_35 {m0 : jMem} (v1 : Int32) (k72 : Int32 → jMem → Option (Int32 × jMem))
    (hk72 : ∀ (v2 : Int32) (m : jMem) (r : (Int32 × jMem)), jfr W_N_fewest m0 m → k72 v2 m = some r → jfr W_N_fewest m0 r.2) : ∀ (n : Nat) (v2 : Int32) (v3 : Int32) (m : jMem) (r : (Int32 × jMem)), jfr W_N_fewest m0 m → lp_N_fewest_35 v1 k72 n v2 v3 m = some r → jfr W_N_fewest m0 r.2 := by
  intro n
  induction n with
  | zero => intro v2 v3 m r hf h; unfold lp_N_fewest_35 at h; cases h
  | succ n ih =>
    intro v2 v3 m r hf h
    unfold lp_N_fewest_35 at h
    refine jem (p := (m 29 15) ≤ v3) (fun c => ?_) (fun c => ?_)
    · rw [if_pos c] at h
      exact hk72 v2 m _ hf h
    · rw [if_neg c] at h
      obtain ⟨x6, m7, zm7, h⟩ := jbd_some h
      replace hf := jfr_tr hf (jfr_sub (W := W_C_isIn) rfl (fr_C_isIn zm7))
      refine jem (p := x6 = 0) (fun c => ?_) (fun c => ?_)
      · rw [if_pos c] at h
        exact ih v2 (v3 + (1 : Int32)) m7 _ hf h
      · rw [if_neg c] at h
        obtain ⟨x8, m9, zm9, h⟩ := jbd_some h
        replace hf := jfr_tr hf (jfr_sub (W := W_N_putOneBehind) rfl (fr_N_putOneBehind zm9))
        obtain ⟨x10, m11, zm11, h⟩ := jbd_some h
        replace hf := jfr_tr hf (jfr_sub (W := W_C_truth) rfl (fr_C_truth zm11))
        exact ih (v2 - x10) (v3 + (1 : Int32)) m11 _ hf h
theorem fr_N_fewest {v1 : Int32} {m : jMem} {r : (Int32 × jMem)} (h : f_N_fewest v1 m = some r) : jfr W_N_fewest m r.2 := by
  unfold f_N_fewest at h
  have hf : jfr W_N_fewest m m := jfr_rf
  refine fr_lp_N_fewest_2 v1 _ ?_ _ (0 : Int32) m _ hf h
  intro m3 r hf h
  obtain ⟨x4, m5, zm5, h⟩ := jbd_some h
  replace hf := jfr_tr hf (jfr_sub (W := W_JI_bitCount) rfl (fr_JI_bitCount zm5))
  refine fr_lp_N_fewest_35 v1 _ ?_ _ x4 (0 : Int32) m5 _ hf h
  intro w13 m12 r hf h
  cases h
  exact hf

def W_O_goesAgainst : List (Nat × Nat) := []
theorem fr_lp_O_goesAgainst_18 {m0 : jMem} (v1 : Int32) (v4 : Int32) (k59 : Int32 → jMem → Option (Int32 × jMem))
    (hk59 : ∀ (v3 : Int32) (m : jMem) (r : (Int32 × jMem)), jfr W_O_goesAgainst m0 m → k59 v3 m = some r → jfr W_O_goesAgainst m0 r.2) : ∀ (n : Nat) (v3 : Int32) (v5 : Int32) (m : jMem) (r : (Int32 × jMem)), jfr W_O_goesAgainst m0 m → lp_O_goesAgainst_18 v1 v4 k59 n v3 v5 m = some r → jfr W_O_goesAgainst m0 r.2 := by
  intro n
  induction n with
  | zero => intro v3 v5 m r hf h; unfold lp_O_goesAgainst_18 at h; cases h
  | succ n ih =>
    intro v3 v5 m r hf h
    unfold lp_O_goesAgainst_18 at h
    refine jem (p := (m 29 15) ≤ v5) (fun c => ?_) (fun c => ?_)
    · rw [if_pos c] at h
      exact hk59 v3 m _ hf h
    · rw [if_neg c] at h
      obtain ⟨x3, ex3, g, h⟩ := jld_some h
      refine jem (p := (x3 &&& v3) = 0) (fun c => ?_) (fun c => ?_)
      · rw [if_pos c] at h
        exact ih v3 (v5 + (1 : Int32)) m _ hf h
      · rw [if_neg c] at h
        obtain ⟨x4, m5, zm5, h⟩ := jbd_some h
        replace hf := jfr_tr hf (jfr_sub (W := W_C_bit) rfl (fr_C_bit zm5))
        exact ih (v3 ||| x4) (v5 + (1 : Int32)) m5 _ hf h
theorem fr_lp_O_goesAgainst_62 {m0 : jMem} (v1 : Int32) (v4 : Int32) (k104 : Int32 → jMem → Option (Int32 × jMem))
    (hk104 : ∀ (v3 : Int32) (m : jMem) (r : (Int32 × jMem)), jfr W_O_goesAgainst m0 m → k104 v3 m = some r → jfr W_O_goesAgainst m0 r.2) : ∀ (n : Nat) (v3 : Int32) (v5 : Int32) (m : jMem) (r : (Int32 × jMem)), jfr W_O_goesAgainst m0 m → lp_O_goesAgainst_62 v1 v4 k104 n v3 v5 m = some r → jfr W_O_goesAgainst m0 r.2 := by
  intro n
  induction n with
  | zero => intro v3 v5 m r hf h; unfold lp_O_goesAgainst_62 at h; cases h
  | succ n ih =>
    intro v3 v5 m r hf h
    unfold lp_O_goesAgainst_62 at h
    refine jem (p := (m 89 3) ≤ v5) (fun c => ?_) (fun c => ?_)
    · rw [if_pos c] at h
      exact hk104 v3 m _ hf h
    · rw [if_neg c] at h
      obtain ⟨x8, ex8, g, h⟩ := jld_some h
      obtain ⟨x9, m10, zm10, h⟩ := jbd_some h
      replace hf := jfr_tr hf (jfr_sub (W := W_C_isIn) rfl (fr_C_isIn zm10))
      refine jem (p := x9 = 0) (fun c => ?_) (fun c => ?_)
      · rw [if_pos c] at h
        exact ih v3 (v5 + (1 : Int32)) m10 _ hf h
      · rw [if_neg c] at h
        obtain ⟨x11, ex11, g, h⟩ := jld_some h
        obtain ⟨x12, m13, zm13, h⟩ := jbd_some h
        replace hf := jfr_tr hf (jfr_sub (W := W_C_bit) rfl (fr_C_bit zm13))
        exact ih (v3 ||| x12) (v5 + (1 : Int32)) m13 _ hf h
theorem fr_lp_O_goesAgainst_8 {m0 : jMem} (v1 : Int32) (k110 : Int32 → jMem → Option (Int32 × jMem))
    (hk110 : ∀ (v3 : Int32) (m : jMem) (r : (Int32 × jMem)), jfr W_O_goesAgainst m0 m → k110 v3 m = some r → jfr W_O_goesAgainst m0 r.2) : ∀ (n : Nat) (v3 : Int32) (v4 : Int32) (m : jMem) (r : (Int32 × jMem)), jfr W_O_goesAgainst m0 m → lp_O_goesAgainst_8 v1 k110 n v3 v4 m = some r → jfr W_O_goesAgainst m0 r.2 := by
  intro n
  induction n with
  | zero => intro v3 v4 m r hf h; unfold lp_O_goesAgainst_8 at h; cases h
  | succ n ih =>
    intro v3 v4 m r hf h
    unfold lp_O_goesAgainst_8 at h
    refine jem (p := (30 : Int32) ≤ v4) (fun c => ?_) (fun c => ?_)
    · rw [if_pos c] at h
      exact hk110 v3 m _ hf h
    · rw [if_neg c] at h
      refine fr_lp_O_goesAgainst_18 v1 v4 _ ?_ _ v3 (0 : Int32) m _ hf h
      intro w7 m6 r hf h
      refine fr_lp_O_goesAgainst_62 v1 v4 _ ?_ _ w7 (0 : Int32) m6 _ hf h
      intro w15 m14 r hf h
      exact ih w15 (v4 + (1 : Int32)) m14 _ hf h
theorem fr_O_goesAgainst {v1 : Int32} {v2 : Int32} {m : jMem} {r : (Int32 × jMem)} (h : f_O_goesAgainst v1 v2 m = some r) : jfr W_O_goesAgainst m r.2 := by
  unfold f_O_goesAgainst at h
  have hf : jfr W_O_goesAgainst m m := jfr_rf
  obtain ⟨x1, m2, zm2, h⟩ := jbd_some h
  replace hf := jfr_tr hf (jfr_sub (W := W_C_bit) rfl (fr_C_bit zm2))
  refine fr_lp_O_goesAgainst_8 v1 _ ?_ _ x1 (0 : Int32) m2 _ hf h
  intro w17 m16 r hf h
  obtain ⟨x18, m19, zm19, h⟩ := jbd_some h
  replace hf := jfr_tr hf (jfr_sub (W := W_C_isIn) rfl (fr_C_isIn zm19))
  obtain ⟨g, h⟩ := jgd_some h
  cases h
  exact hf

def W_O_tell : List (Nat × Nat) := [(89, 4), (90, 0), (91, 0)]
theorem fr_O_tell {v1 : Int32} {v2 : Int32} {m : jMem} {r : (Unit × jMem)} (h : f_O_tell v1 v2 m = some r) : jfr W_O_tell m r.2 := by
  unfold f_O_tell at h
  have hf : jfr W_O_tell m m := jfr_rf
  refine jem (p := (12 : Int32) ≤ (m 89 3)) (fun c => ?_) (fun c => ?_)
  · rw [if_pos c] at h
    cases h
    exact hf
  · rw [if_neg c] at h
    obtain ⟨m1, hm1, g, h⟩ := jst_some h
    replace hf := jfr_tr hf (jfr_ua hm1 rfl)
    obtain ⟨m2, hm2, g, h⟩ := jst_some h
    replace hf := jfr_tr hf (jfr_ua hm2 rfl)
    obtain ⟨m3, hm3, h⟩ := jpu_some h
    replace hf := jfr_tr hf (jfr_up hm3 rfl)
    cases h
    exact hf

def W_O_mayFollow : List (Nat × Nat) := []
theorem fr_O_mayFollow {v1 : Int32} {v2 : Int32} {m : jMem} {r : (Int32 × jMem)} (h : f_O_mayFollow v1 v2 m = some r) : jfr W_O_mayFollow m r.2 := by
  unfold f_O_mayFollow at h
  have hf : jfr W_O_mayFollow m m := jfr_rf
  obtain ⟨x1, m2, zm2, h⟩ := jbd_some h
  replace hf := jfr_tr hf (jfr_sub (W := W_C_isIn) rfl (fr_C_isIn zm2))
  refine jem_ne (p := x1 = 0) (fun c => ?_) (fun c => ?_)
  · rw [if_neg c] at h
    cases h
    exact hf
  · rw [if_pos c] at h
    obtain ⟨x3, ex3, g, h⟩ := jld_some h
    refine jem_ne (p := (x3 &&& (v2 ^^^ (-1 : Int32))) = 0) (fun c => ?_) (fun c => ?_)
    · rw [if_neg c] at h
      cases h
      exact hf
    · rw [if_pos c] at h
      cases h
      exact hf

def W_O_howMany : List (Nat × Nat) := [(94, 0)]
theorem fr_lp_O_howMany_30 {m0 : jMem} (v2 : Int32) (k70 : Int32 → jMem → Option (Int32 × jMem))
    (hk70 : ∀ (v3 : Int32) (m : jMem) (r : (Int32 × jMem)), jfr W_O_howMany m0 m → k70 v3 m = some r → jfr W_O_howMany m0 r.2) : ∀ (n : Nat) (v3 : Int32) (v4 : Int32) (m : jMem) (r : (Int32 × jMem)), jfr W_O_howMany m0 m → lp_O_howMany_30 v2 k70 n v3 v4 m = some r → jfr W_O_howMany m0 r.2 := by
  intro n
  induction n with
  | zero => intro v3 v4 m r hf h; unfold lp_O_howMany_30 at h; cases h
  | succ n ih =>
    intro v3 v4 m r hf h
    unfold lp_O_howMany_30 at h
    refine jem (p := (m 89 6) ≤ v4) (fun c => ?_) (fun c => ?_)
    · rw [if_pos c] at h
      exact hk70 v3 m _ hf h
    · rw [if_neg c] at h
      obtain ⟨x4, m5, zm5, h⟩ := jbd_some h
      replace hf := jfr_tr hf (jfr_sub (W := W_O_mayFollow) rfl (fr_O_mayFollow zm5))
      refine jem (p := x4 = 0) (fun c => ?_) (fun c => ?_)
      · rw [if_pos c] at h
        exact ih v3 (v4 + (1 : Int32)) m5 _ hf h
      · rw [if_neg c] at h
        obtain ⟨x6, m7, zm7, h⟩ := jbd_some h
        replace hf := jfr_tr hf (jfr_sub (W := W_C_bit) rfl (fr_C_bit zm7))
        obtain ⟨x8, ex8, g, h⟩ := jld_some h
        exact ih (v3 + x8) (v4 + (1 : Int32)) m7 _ hf h
theorem fr_lp_O_howMany_21 {m0 : jMem} (k83 : jMem → Option (Int32 × jMem))
    (hk83 : ∀ (m : jMem) (r : (Int32 × jMem)), jfr W_O_howMany m0 m → k83 m = some r → jfr W_O_howMany m0 r.2) : ∀ (n : Nat) (v2 : Int32) (m : jMem) (r : (Int32 × jMem)), jfr W_O_howMany m0 m → lp_O_howMany_21 k83 n v2 m = some r → jfr W_O_howMany m0 r.2 := by
  intro n
  induction n with
  | zero => intro v2 m r hf h; unfold lp_O_howMany_21 at h; cases h
  | succ n ih =>
    intro v2 m r hf h
    unfold lp_O_howMany_21 at h
    refine jem (p := v2 < 0) (fun c => ?_) (fun c => ?_)
    · rw [if_pos c] at h
      exact hk83  m _ hf h
    · rw [if_neg c] at h
      refine fr_lp_O_howMany_30 v2 _ ?_ _ (0 : Int32) (0 : Int32) m _ hf h
      intro w10 m9 r hf h
      obtain ⟨m11, hm11, g, h⟩ := jst_some h
      replace hf := jfr_tr hf (jfr_ua hm11 rfl)
      exact ih (v2 + (-1 : Int32)) m11 _ hf h
theorem fr_O_howMany {m : jMem} {r : (Int32 × jMem)} (h : f_O_howMany m = some r) : jfr W_O_howMany m r.2 := by
  unfold f_O_howMany at h
  have hf : jfr W_O_howMany m m := jfr_rf
  obtain ⟨x1, m2, zm2, h⟩ := jbd_some h
  replace hf := jfr_tr hf (jfr_sub (W := W_C_bit) rfl (fr_C_bit zm2))
  obtain ⟨m3, hm3, g, h⟩ := jst_some h
  replace hf := jfr_tr hf (jfr_ua hm3 rfl)
  refine fr_lp_O_howMany_21 _ ?_ _ ((x1 - (1 : Int32)) - (1 : Int32)) m3 _ hf h
  intro m12 r hf h
  obtain ⟨x13, ex13, g, h⟩ := jld_some h
  cases h
  exact hf

def W_O_placesOf : List (Nat × Nat) := []
theorem fr_lp_O_placesOf_4 {m0 : jMem} (v1 : Int32) (k38 : Int32 → jMem → Option (Int32 × jMem))
    (hk38 : ∀ (v2 : Int32) (m : jMem) (r : (Int32 × jMem)), jfr W_O_placesOf m0 m → k38 v2 m = some r → jfr W_O_placesOf m0 r.2) : ∀ (n : Nat) (v2 : Int32) (v3 : Int32) (m : jMem) (r : (Int32 × jMem)), jfr W_O_placesOf m0 m → lp_O_placesOf_4 v1 k38 n v2 v3 m = some r → jfr W_O_placesOf m0 r.2 := by
  intro n
  induction n with
  | zero => intro v2 v3 m r hf h; unfold lp_O_placesOf_4 at h; cases h
  | succ n ih =>
    intro v2 v3 m r hf h
    unfold lp_O_placesOf_4 at h
    refine jem (p := (m 89 6) ≤ v3) (fun c => ?_) (fun c => ?_)
    · rw [if_pos c] at h
      exact hk38 v2 m _ hf h
    · rw [if_neg c] at h
      obtain ⟨x1, ex1, g, h⟩ := jld_some h
      obtain ⟨x2, m3, zm3, h⟩ := jbd_some h
      replace hf := jfr_tr hf (jfr_sub (W := W_C_isIn) rfl (fr_C_isIn zm3))
      refine jem (p := x2 = 0) (fun c => ?_) (fun c => ?_)
      · rw [if_pos c] at h
        exact ih v2 (v3 + (1 : Int32)) m3 _ hf h
      · rw [if_neg c] at h
        obtain ⟨x4, m5, zm5, h⟩ := jbd_some h
        replace hf := jfr_tr hf (jfr_sub (W := W_C_bit) rfl (fr_C_bit zm5))
        exact ih (v2 ||| x4) (v3 + (1 : Int32)) m5 _ hf h
theorem fr_O_placesOf {v1 : Int32} {m : jMem} {r : (Int32 × jMem)} (h : f_O_placesOf v1 m = some r) : jfr W_O_placesOf m r.2 := by
  unfold f_O_placesOf at h
  have hf : jfr W_O_placesOf m m := jfr_rf
  refine fr_lp_O_placesOf_4 v1 _ ?_ _ (0 : Int32) (0 : Int32) m _ hf h
  intro w7 m6 r hf h
  cases h
  exact hf

def W_O_demand : List (Nat × Nat) := [(93, 0)]
theorem fr_lp_O_demand_2 {m0 : jMem} (v1 : Int32) (v2 : Int32) (k43 : jMem → Option (Unit × jMem))
    (hk43 : ∀ (m : jMem) (r : (Unit × jMem)), jfr W_O_demand m0 m → k43 m = some r → jfr W_O_demand m0 r.2) : ∀ (n : Nat) (v3 : Int32) (m : jMem) (r : (Unit × jMem)), jfr W_O_demand m0 m → lp_O_demand_2 v1 v2 k43 n v3 m = some r → jfr W_O_demand m0 r.2 := by
  intro n
  induction n with
  | zero => intro v3 m r hf h; unfold lp_O_demand_2 at h; cases h
  | succ n ih =>
    intro v3 m r hf h
    unfold lp_O_demand_2 at h
    refine jem (p := (m 89 6) ≤ v3) (fun c => ?_) (fun c => ?_)
    · rw [if_pos c] at h
      exact hk43  m _ hf h
    · rw [if_neg c] at h
      obtain ⟨x1, ex1, g, h⟩ := jld_some h
      refine jem_ne (p := x1 = v2) (fun c => ?_) (fun c => ?_)
      · rw [if_neg c] at h
        exact ih (v3 + (1 : Int32)) m _ hf h
      · rw [if_pos c] at h
        obtain ⟨x2, ex2, g, h⟩ := jld_some h
        obtain ⟨x3, m4, zm4, h⟩ := jbd_some h
        replace hf := jfr_tr hf (jfr_sub (W := W_C_bit) rfl (fr_C_bit zm4))
        obtain ⟨x5, m6, zm6, h⟩ := jbd_some h
        replace hf := jfr_tr hf (jfr_sub (W := W_O_placesOf) rfl (fr_O_placesOf zm6))
        obtain ⟨m7, hm7, g, h⟩ := jst_some h
        replace hf := jfr_tr hf (jfr_ua hm7 rfl)
        exact ih (v3 + (1 : Int32)) m7 _ hf h
theorem fr_O_demand {v1 : Int32} {v2 : Int32} {m : jMem} {r : (Unit × jMem)} (h : f_O_demand v1 v2 m = some r) : jfr W_O_demand m r.2 := by
  unfold f_O_demand at h
  have hf : jfr W_O_demand m m := jfr_rf
  refine fr_lp_O_demand_2 v1 v2 _ ?_ _ (0 : Int32) m _ hf h
  intro m8 r hf h
  cases h
  exact hf

def W_O_takesSet : List (Nat × Nat) := [(89, 7), (92, 0), (93, 0)]
theorem fr_lp_O_takesSet_29 {m0 : jMem} (v1 : Int32) (k83 : jMem → Option (Int32 × jMem))
    (hk83 : ∀ (m : jMem) (r : (Int32 × jMem)), jfr W_O_takesSet m0 m → k83 m = some r → jfr W_O_takesSet m0 r.2) : ∀ (n : Nat) (v2 : Int32) (m : jMem) (r : (Int32 × jMem)), jfr W_O_takesSet m0 m → lp_O_takesSet_29 v1 k83 n v2 m = some r → jfr W_O_takesSet m0 r.2 := by
  intro n
  induction n with
  | zero => intro v2 m r hf h; unfold lp_O_takesSet_29 at h; cases h
  | succ n ih =>
    intro v2 m r hf h
    unfold lp_O_takesSet_29 at h
    refine jem (p := (m 29 15) ≤ v2) (fun c => ?_) (fun c => ?_)
    · rw [if_pos c] at h
      exact hk83  m _ hf h
    · rw [if_neg c] at h
      obtain ⟨x6, m7, zm7, h⟩ := jbd_some h
      replace hf := jfr_tr hf (jfr_sub (W := W_C_isIn) rfl (fr_C_isIn zm7))
      refine jem (p := x6 = 0) (fun c => ?_) (fun c => ?_)
      · rw [if_pos c] at h
        exact ih (v2 + (1 : Int32)) m7 _ hf h
      · rw [if_neg c] at h
        refine jem (p := (12 : Int32) ≤ (m7 89 6)) (fun c => ?_) (fun c => ?_)
        · rw [if_pos c] at h
          exact ih (v2 + (1 : Int32)) m7 _ hf h
        · rw [if_neg c] at h
          obtain ⟨m8, hm8, g, h⟩ := jst_some h
          replace hf := jfr_tr hf (jfr_ua hm8 rfl)
          obtain ⟨m9, hm9, h⟩ := jpu_some h
          replace hf := jfr_tr hf (jfr_up hm9 rfl)
          exact ih (v2 + (1 : Int32)) m9 _ hf h
theorem fr_lp_O_takesSet_85 {m0 : jMem} (v1 : Int32) (k123 : jMem → Option (Int32 × jMem))
    (hk123 : ∀ (m : jMem) (r : (Int32 × jMem)), jfr W_O_takesSet m0 m → k123 m = some r → jfr W_O_takesSet m0 r.2) : ∀ (n : Nat) (v2 : Int32) (m : jMem) (r : (Int32 × jMem)), jfr W_O_takesSet m0 m → lp_O_takesSet_85 v1 k123 n v2 m = some r → jfr W_O_takesSet m0 r.2 := by
  intro n
  induction n with
  | zero => intro v2 m r hf h; unfold lp_O_takesSet_85 at h; cases h
  | succ n ih =>
    intro v2 m r hf h
    unfold lp_O_takesSet_85 at h
    refine jem (p := (m 89 6) ≤ v2) (fun c => ?_) (fun c => ?_)
    · rw [if_pos c] at h
      exact hk123  m _ hf h
    · rw [if_neg c] at h
      obtain ⟨x11, ex11, g, h⟩ := jld_some h
      obtain ⟨x12, ex12, g, h⟩ := jld_some h
      obtain ⟨x13, m14, zm14, h⟩ := jbd_some h
      replace hf := jfr_tr hf (jfr_sub (W := W_O_placesOf) rfl (fr_O_placesOf zm14))
      obtain ⟨m15, hm15, g, h⟩ := jst_some h
      replace hf := jfr_tr hf (jfr_ua hm15 rfl)
      exact ih (v2 + (1 : Int32)) m15 _ hf h
theorem fr_lp_O_takesSet_125 {m0 : jMem} (v1 : Int32) (k181 : jMem → Option (Int32 × jMem))
    (hk181 : ∀ (m : jMem) (r : (Int32 × jMem)), jfr W_O_takesSet m0 m → k181 m = some r → jfr W_O_takesSet m0 r.2) : ∀ (n : Nat) (v2 : Int32) (m : jMem) (r : (Int32 × jMem)), jfr W_O_takesSet m0 m → lp_O_takesSet_125 v1 k181 n v2 m = some r → jfr W_O_takesSet m0 r.2 := by
  intro n
  induction n with
  | zero => intro v2 m r hf h; unfold lp_O_takesSet_125 at h; cases h
  | succ n ih =>
    intro v2 m r hf h
    unfold lp_O_takesSet_125 at h
    refine jem (p := (m 89 3) ≤ v2) (fun c => ?_) (fun c => ?_)
    · rw [if_pos c] at h
      exact hk181  m _ hf h
    · rw [if_neg c] at h
      obtain ⟨x17, ex17, g, h⟩ := jld_some h
      obtain ⟨x18, m19, zm19, h⟩ := jbd_some h
      replace hf := jfr_tr hf (jfr_sub (W := W_C_isIn) rfl (fr_C_isIn zm19))
      refine jem (p := x18 = 0) (fun c => ?_) (fun c => ?_)
      · rw [if_pos c] at h
        exact ih (v2 + (1 : Int32)) m19 _ hf h
      · rw [if_neg c] at h
        obtain ⟨x20, ex20, g, h⟩ := jld_some h
        obtain ⟨x21, m22, zm22, h⟩ := jbd_some h
        replace hf := jfr_tr hf (jfr_sub (W := W_C_isIn) rfl (fr_C_isIn zm22))
        refine jem (p := x21 = 0) (fun c => ?_) (fun c => ?_)
        · rw [if_pos c] at h
          exact ih (v2 + (1 : Int32)) m22 _ hf h
        · rw [if_neg c] at h
          obtain ⟨x23, ex23, g, h⟩ := jld_some h
          obtain ⟨x24, ex24, g, h⟩ := jld_some h
          obtain ⟨u25, m26, zm26, h⟩ := jbd_some h
          replace hf := jfr_tr hf (jfr_sub (W := W_O_demand) rfl (fr_O_demand zm26))
          exact ih (v2 + (1 : Int32)) m26 _ hf h
theorem fr_O_takesSet {v1 : Int32} {m : jMem} {r : (Int32 × jMem)} (h : f_O_takesSet v1 m = some r) : jfr W_O_takesSet m r.2 := by
  unfold f_O_takesSet at h
  have hf : jfr W_O_takesSet m m := jfr_rf
  obtain ⟨x1, m2, zm2, h⟩ := jbd_some h
  replace hf := jfr_tr hf (jfr_sub (W := W_L_isSet) rfl (fr_L_isSet zm2))
  refine jem (p := x1 = 0) (fun c => ?_) (fun c => ?_)
  · rw [if_pos c] at h
    cases h
    exact hf
  · rw [if_neg c] at h
    obtain ⟨x3, m4, zm4, h⟩ := jbd_some h
    replace hf := jfr_tr hf (jfr_sub (W := W_JI_bitCount) rfl (fr_JI_bitCount zm4))
    refine jem (p := x3 ≤ (12 : Int32)) (fun c => ?_) (fun c => ?_)
    · rw [if_pos c] at h
      obtain ⟨m5, hm5, h⟩ := jpu_some h
      replace hf := jfr_tr hf (jfr_up hm5 rfl)
      refine fr_lp_O_takesSet_29 v1 _ ?_ _ (0 : Int32) m5 _ hf h
      intro m10 r hf h
      refine fr_lp_O_takesSet_85 v1 _ ?_ _ (0 : Int32) m10 _ hf h
      intro m16 r hf h
      refine fr_lp_O_takesSet_125 v1 _ ?_ _ (0 : Int32) m16 _ hf h
      intro m27 r hf h
      cases h
      exact hf
    · rw [if_neg c] at h
      cases h
      exact hf

def W_O_waysAhead : List (Nat × Nat) := []
theorem fr_lp_O_waysAhead_5 {m0 : jMem} (v1 : Int32) (v2 : Int32) (k42 : Int32 → jMem → Option (Int32 × jMem))
    (hk42 : ∀ (v3 : Int32) (m : jMem) (r : (Int32 × jMem)), jfr W_O_waysAhead m0 m → k42 v3 m = some r → jfr W_O_waysAhead m0 r.2) : ∀ (n : Nat) (v3 : Int32) (v4 : Int32) (m : jMem) (r : (Int32 × jMem)), jfr W_O_waysAhead m0 m → lp_O_waysAhead_5 v1 v2 k42 n v3 v4 m = some r → jfr W_O_waysAhead m0 r.2 := by
  intro n
  induction n with
  | zero => intro v3 v4 m r hf h; unfold lp_O_waysAhead_5 at h; cases h
  | succ n ih =>
    intro v3 v4 m r hf h
    unfold lp_O_waysAhead_5 at h
    refine jem (p := v2 ≤ v4) (fun c => ?_) (fun c => ?_)
    · rw [if_pos c] at h
      exact hk42 v3 m _ hf h
    · rw [if_neg c] at h
      obtain ⟨x1, m2, zm2, h⟩ := jbd_some h
      replace hf := jfr_tr hf (jfr_sub (W := W_O_mayFollow) rfl (fr_O_mayFollow zm2))
      refine jem (p := x1 = 0) (fun c => ?_) (fun c => ?_)
      · rw [if_pos c] at h
        exact ih v3 (v4 + (1 : Int32)) m2 _ hf h
      · rw [if_neg c] at h
        obtain ⟨x3, m4, zm4, h⟩ := jbd_some h
        replace hf := jfr_tr hf (jfr_sub (W := W_C_bit) rfl (fr_C_bit zm4))
        obtain ⟨x5, ex5, g, h⟩ := jld_some h
        exact ih (v3 + x5) (v4 + (1 : Int32)) m4 _ hf h
theorem fr_O_waysAhead {v1 : Int32} {v2 : Int32} {m : jMem} {r : (Int32 × jMem)} (h : f_O_waysAhead v1 v2 m = some r) : jfr W_O_waysAhead m r.2 := by
  unfold f_O_waysAhead at h
  have hf : jfr W_O_waysAhead m m := jfr_rf
  refine fr_lp_O_waysAhead_5 v1 v2 _ ?_ _ (0 : Int32) (0 : Int32) m _ hf h
  intro w7 m6 r hf h
  cases h
  exact hf

def W_O_memberAt : List (Nat × Nat) := []
theorem fr_lp_O_memberAt_2 {m0 : jMem} (v1 : Int32) (v2 : Int32) (k41 : Int32 → jMem → Option (Int32 × jMem)) (k49 : jMem → Option (Int32 × jMem))
    (hk41 : ∀ (v3 : Int32) (m : jMem) (r : (Int32 × jMem)), jfr W_O_memberAt m0 m → k41 v3 m = some r → jfr W_O_memberAt m0 r.2)
    (hk49 : ∀ (m : jMem) (r : (Int32 × jMem)), jfr W_O_memberAt m0 m → k49 m = some r → jfr W_O_memberAt m0 r.2) : ∀ (n : Nat) (v3 : Int32) (m : jMem) (r : (Int32 × jMem)), jfr W_O_memberAt m0 m → lp_O_memberAt_2 v1 v2 k41 k49 n v3 m = some r → jfr W_O_memberAt m0 r.2 := by
  intro n
  induction n with
  | zero => intro v3 m r hf h; unfold lp_O_memberAt_2 at h; cases h
  | succ n ih =>
    intro v3 m r hf h
    unfold lp_O_memberAt_2 at h
    refine jem (p := (m 89 6) ≤ v3) (fun c => ?_) (fun c => ?_)
    · rw [if_pos c] at h
      exact hk49  m _ hf h
    · rw [if_neg c] at h
      obtain ⟨x1, m2, zm2, h⟩ := jbd_some h
      replace hf := jfr_tr hf (jfr_sub (W := W_O_mayFollow) rfl (fr_O_mayFollow zm2))
      refine jem (p := x1 = 0) (fun c => ?_) (fun c => ?_)
      · rw [if_pos c] at h
        exact ih (v3 + (1 : Int32)) m2 _ hf h
      · rw [if_neg c] at h
        obtain ⟨x3, m4, zm4, h⟩ := jbd_some h
        replace hf := jfr_tr hf (jfr_sub (W := W_O_waysAhead) rfl (fr_O_waysAhead zm4))
        obtain ⟨x5, m6, zm6, h⟩ := jbd_some h
        replace hf := jfr_tr hf (jfr_sub (W := W_C_bit) rfl (fr_C_bit zm6))
        obtain ⟨x7, ex7, g, h⟩ := jld_some h
        refine jem (p := (x3 + x7) ≤ v2) (fun c => ?_) (fun c => ?_)
        · rw [if_pos c] at h
          exact ih (v3 + (1 : Int32)) m6 _ hf h
        · rw [if_neg c] at h
          exact hk41 v3 m6 _ hf h
theorem fr_O_memberAt {v1 : Int32} {v2 : Int32} {m : jMem} {r : (Int32 × jMem)} (h : f_O_memberAt v1 v2 m = some r) : jfr W_O_memberAt m r.2 := by
  unfold f_O_memberAt at h
  have hf : jfr W_O_memberAt m m := jfr_rf
  refine fr_lp_O_memberAt_2 v1 v2 _ _ ?_ ?_ _ (0 : Int32) m _ hf h
  · intro w9 m8 r hf h
    cases h
    exact hf
  · intro m10 r hf h
    cases h
    exact hf

def W_O_letterAt : List (Nat × Nat) := [(94, 0)]
theorem fr_lp_O_letterAt_21 {m0 : jMem} (v2 : Int32) (k51 : jMem → Option (Int32 × jMem)) (k88 : Int32 → jMem → Option (Int32 × jMem))
    (hk51 : ∀ (m : jMem) (r : (Int32 × jMem)), jfr W_O_letterAt m0 m → k51 m = some r → jfr W_O_letterAt m0 r.2)
    (hk88 : ∀ (v5 : Int32) (m : jMem) (r : (Int32 × jMem)), jfr W_O_letterAt m0 m → k88 v5 m = some r → jfr W_O_letterAt m0 r.2) : ∀ (n : Nat) (v3 : Int32) (v4 : Int32) (v5 : Int32) (v6 : Int32) (m : jMem) (r : (Int32 × jMem)), jfr W_O_letterAt m0 m → lp_O_letterAt_21 v2 k51 k88 n v3 v4 v5 v6 m = some r → jfr W_O_letterAt m0 r.2 := by
  intro n
  induction n with
  | zero => intro v3 v4 v5 v6 m r hf h; unfold lp_O_letterAt_21 at h; cases h
  | succ n ih =>
    intro v3 v4 v5 v6 m r hf h
    unfold lp_O_letterAt_21 at h
    refine jem (p := v2 < v6) (fun c => ?_) (fun c => ?_)
    · rw [if_pos c] at h
      exact hk88 v5 m _ hf h
    · rw [if_neg c] at h
      refine jem (p := (m 89 6) ≤ v6) (fun c => ?_) (fun c => ?_)
      · rw [if_pos c] at h
        exact hk88 v5 m _ hf h
      · rw [if_neg c] at h
        obtain ⟨x3, m4, zm4, h⟩ := jbd_some h
        replace hf := jfr_tr hf (jfr_sub (W := W_O_memberAt) rfl (fr_O_memberAt zm4))
        refine jem_ne (p := x3 = (-1 : Int32)) (fun c => ?_) (fun c => ?_)
        · rw [if_neg c] at h
          obtain ⟨x5, m6, zm6, h⟩ := jbd_some h
          replace hf := jfr_tr hf (jfr_sub (W := W_O_waysAhead) rfl (fr_O_waysAhead zm6))
          obtain ⟨x7, m8, zm8, h⟩ := jbd_some h
          replace hf := jfr_tr hf (jfr_sub (W := W_C_bit) rfl (fr_C_bit zm8))
          obtain ⟨x9, ex9, g, h⟩ := jld_some h
          exact ih (v3 ||| x7) (v4 - x5) x9 (v6 + (1 : Int32)) m8 _ hf h
        · rw [if_pos c] at h
          exact hk51  m4 _ hf h
theorem fr_O_letterAt {v1 : Int32} {v2 : Int32} {m : jMem} {r : (Int32 × jMem)} (h : f_O_letterAt v1 v2 m = some r) : jfr W_O_letterAt m r.2 := by
  unfold f_O_letterAt at h
  have hf : jfr W_O_letterAt m m := jfr_rf
  obtain ⟨x1, m2, zm2, h⟩ := jbd_some h
  replace hf := jfr_tr hf (jfr_sub (W := W_O_howMany) rfl (fr_O_howMany zm2))
  refine jem (p := v1 < x1) (fun c => ?_) (fun c => ?_)
  · rw [if_pos c] at h
    refine fr_lp_O_letterAt_21 v2 _ _ ?_ ?_ _ (0 : Int32) v1 (-1 : Int32) (0 : Int32) m2 _ hf h
    · intro m10 r hf h
      cases h
      exact hf
    · intro w12 m11 r hf h
      cases h
      exact hf
  · rw [if_neg c] at h
    cases h
    exact hf

def W_O_goOnFrom : List (Nat × Nat) := [(95, 0), (97, 0), (98, 0), (99, 0), (100, 0), (101, 0), (102, 0), (103, 0), (104, 0), (105, 0), (106, 0), (107, 0), (108, 0)]
theorem fr_lp_O_goOnFrom_59 {m0 : jMem} (v1 : Int32) (v2 : Int32) (v3 : Int32) (v4 : Int32) (k97 : jMem → Option (Unit × jMem))
    (hk97 : ∀ (m : jMem) (r : (Unit × jMem)), jfr W_O_goOnFrom m0 m → k97 m = some r → jfr W_O_goOnFrom m0 r.2) : ∀ (n : Nat) (v5 : Int32) (m : jMem) (r : (Unit × jMem)), jfr W_O_goOnFrom m0 m → lp_O_goOnFrom_59 v1 v2 v3 v4 k97 n v5 m = some r → jfr W_O_goOnFrom m0 r.2 := by
  intro n
  induction n with
  | zero => intro v5 m r hf h; unfold lp_O_goOnFrom_59 at h; cases h
  | succ n ih =>
    intro v5 m r hf h
    unfold lp_O_goOnFrom_59 at h
    refine jem (p := (m 89 6) ≤ v5) (fun c => ?_) (fun c => ?_)
    · rw [if_pos c] at h
      exact hk97  m _ hf h
    · rw [if_neg c] at h
      obtain ⟨x10, m11, zm11, h⟩ := jbd_some h
      replace hf := jfr_tr hf (jfr_sub (W := W_C_isIn) rfl (fr_C_isIn zm11))
      refine jem_ne (p := x10 = 0) (fun c => ?_) (fun c => ?_)
      · rw [if_neg c] at h
        exact ih (v5 + (1 : Int32)) m11 _ hf h
      · rw [if_pos c] at h
        obtain ⟨q12, eq12, gq12, h⟩ := jl3_some h
        obtain ⟨x13, ex13, g, h⟩ := jld_some h
        obtain ⟨m14, hm14, g, h⟩ := jst_some h
        replace hf := jfr_tr hf (jfr_ua hm14 (jrows_96 W_O_goOnFrom (by decide) eq12 gq12))
        exact ih (v5 + (1 : Int32)) m14 _ hf h
theorem fr_lp_O_goOnFrom_2 {m0 : jMem} (v1 : Int32) (k103 : jMem → Option (Unit × jMem))
    (hk103 : ∀ (m : jMem) (r : (Unit × jMem)), jfr W_O_goOnFrom m0 m → k103 m = some r → jfr W_O_goOnFrom m0 r.2) : ∀ (n : Nat) (v2 : Int32) (m : jMem) (r : (Unit × jMem)), jfr W_O_goOnFrom m0 m → lp_O_goOnFrom_2 v1 k103 n v2 m = some r → jfr W_O_goOnFrom m0 r.2 := by
  intro n
  induction n with
  | zero => intro v2 m r hf h; unfold lp_O_goOnFrom_2 at h; cases h
  | succ n ih =>
    intro v2 m r hf h
    unfold lp_O_goOnFrom_2 at h
    refine jem (p := (m 89 6) ≤ v2) (fun c => ?_) (fun c => ?_)
    · rw [if_pos c] at h
      exact hk103  m _ hf h
    · rw [if_neg c] at h
      obtain ⟨x1, m2, zm2, h⟩ := jbd_some h
      replace hf := jfr_tr hf (jfr_sub (W := W_O_mayFollow) rfl (fr_O_mayFollow zm2))
      refine jem (p := x1 = 0) (fun c => ?_) (fun c => ?_)
      · rw [if_pos c] at h
        exact ih (v2 + (1 : Int32)) m2 _ hf h
      · rw [if_neg c] at h
        obtain ⟨x3, m4, zm4, h⟩ := jbd_some h
        replace hf := jfr_tr hf (jfr_sub (W := W_C_bit) rfl (fr_C_bit zm4))
        obtain ⟨x5, ex5, g, h⟩ := jld_some h
        obtain ⟨x6, ex6, g, h⟩ := jld_some h
        obtain ⟨m7, hm7, g, h⟩ := jst_some h
        replace hf := jfr_tr hf (jfr_ua hm7 rfl)
        obtain ⟨x8, ex8, g, h⟩ := jld_some h
        obtain ⟨x9, ex9, g, h⟩ := jld_some h
        refine fr_lp_O_goOnFrom_59 v1 v2 (v1 ||| x3) (x8 * x9) _ ?_ _ (0 : Int32) m7 _ hf h
        intro m15 r hf h
        exact ih (v2 + (1 : Int32)) m15 _ hf h
theorem fr_O_goOnFrom {v1 : Int32} {m : jMem} {r : (Unit × jMem)} (h : f_O_goOnFrom v1 m = some r) : jfr W_O_goOnFrom m r.2 := by
  unfold f_O_goOnFrom at h
  have hf : jfr W_O_goOnFrom m m := jfr_rf
  refine fr_lp_O_goOnFrom_2 v1 _ ?_ _ (0 : Int32) m _ hf h
  intro m16 r hf h
  cases h
  exact hf

def W_O_countAhead : List (Nat × Nat) := [(95, 0), (97, 0), (98, 0), (99, 0), (100, 0), (101, 0), (102, 0), (103, 0), (104, 0), (105, 0), (106, 0), (107, 0), (108, 0)]
theorem fr_lp_O_countAhead_12 {m0 : jMem} (v1 : Int32) (k35 : jMem → Option (Unit × jMem))
    (hk35 : ∀ (m : jMem) (r : (Unit × jMem)), jfr W_O_countAhead m0 m → k35 m = some r → jfr W_O_countAhead m0 r.2) : ∀ (n : Nat) (v2 : Int32) (m : jMem) (r : (Unit × jMem)), jfr W_O_countAhead m0 m → lp_O_countAhead_12 v1 k35 n v2 m = some r → jfr W_O_countAhead m0 r.2 := by
  intro n
  induction n with
  | zero => intro v2 m r hf h; unfold lp_O_countAhead_12 at h; cases h
  | succ n ih =>
    intro v2 m r hf h
    unfold lp_O_countAhead_12 at h
    refine jem (p := (m 89 6) ≤ v2) (fun c => ?_) (fun c => ?_)
    · rw [if_pos c] at h
      exact hk35  m _ hf h
    · rw [if_neg c] at h
      obtain ⟨q1, eq1, gq1, h⟩ := jl3_some h
      obtain ⟨m2, hm2, g, h⟩ := jst_some h
      replace hf := jfr_tr hf (jfr_ua hm2 (jrows_96 W_O_countAhead (by decide) eq1 gq1))
      exact ih (v2 + (1 : Int32)) m2 _ hf h
theorem fr_lp_O_countAhead_2 {m0 : jMem} (k41 : jMem → Option (Unit × jMem))
    (hk41 : ∀ (m : jMem) (r : (Unit × jMem)), jfr W_O_countAhead m0 m → k41 m = some r → jfr W_O_countAhead m0 r.2) : ∀ (n : Nat) (v1 : Int32) (m : jMem) (r : (Unit × jMem)), jfr W_O_countAhead m0 m → lp_O_countAhead_2 k41 n v1 m = some r → jfr W_O_countAhead m0 r.2 := by
  intro n
  induction n with
  | zero => intro v1 m r hf h; unfold lp_O_countAhead_2 at h; cases h
  | succ n ih =>
    intro v1 m r hf h
    unfold lp_O_countAhead_2 at h
    refine jem (p := (m 89 6) ≤ v1) (fun c => ?_) (fun c => ?_)
    · rw [if_pos c] at h
      exact hk41  m _ hf h
    · rw [if_neg c] at h
      refine fr_lp_O_countAhead_12 v1 _ ?_ _ (0 : Int32) m _ hf h
      intro m3 r hf h
      exact ih (v1 + (1 : Int32)) m3 _ hf h
theorem fr_lp_O_countAhead_53 {m0 : jMem} (v1 : Int32) (k79 : jMem → Option (Unit × jMem))
    (hk79 : ∀ (m : jMem) (r : (Unit × jMem)), jfr W_O_countAhead m0 m → k79 m = some r → jfr W_O_countAhead m0 r.2) : ∀ (n : Nat) (v2 : Int32) (m : jMem) (r : (Unit × jMem)), jfr W_O_countAhead m0 m → lp_O_countAhead_53 v1 k79 n v2 m = some r → jfr W_O_countAhead m0 r.2 := by
  intro n
  induction n with
  | zero => intro v2 m r hf h; unfold lp_O_countAhead_53 at h; cases h
  | succ n ih =>
    intro v2 m r hf h
    unfold lp_O_countAhead_53 at h
    refine jem (p := v1 < v2) (fun c => ?_) (fun c => ?_)
    · rw [if_pos c] at h
      exact hk79  m _ hf h
    · rw [if_neg c] at h
      refine jem_ne (p := v2 = 0) (fun c => ?_) (fun c => ?_)
      · rw [if_neg c] at h
        obtain ⟨m7, hm7, g, h⟩ := jst_some h
        replace hf := jfr_tr hf (jfr_ua hm7 rfl)
        exact ih (v2 + (1 : Int32)) m7 _ hf h
      · rw [if_pos c] at h
        obtain ⟨m8, hm8, g, h⟩ := jst_some h
        replace hf := jfr_tr hf (jfr_ua hm8 rfl)
        exact ih (v2 + (1 : Int32)) m8 _ hf h
theorem fr_lp_O_countAhead_81 {m0 : jMem} (v1 : Int32) (k106 : jMem → Option (Unit × jMem))
    (hk106 : ∀ (m : jMem) (r : (Unit × jMem)), jfr W_O_countAhead m0 m → k106 m = some r → jfr W_O_countAhead m0 r.2) : ∀ (n : Nat) (v2 : Int32) (m : jMem) (r : (Unit × jMem)), jfr W_O_countAhead m0 m → lp_O_countAhead_81 v1 k106 n v2 m = some r → jfr W_O_countAhead m0 r.2 := by
  intro n
  induction n with
  | zero => intro v2 m r hf h; unfold lp_O_countAhead_81 at h; cases h
  | succ n ih =>
    intro v2 m r hf h
    unfold lp_O_countAhead_81 at h
    refine jem (p := v1 ≤ v2) (fun c => ?_) (fun c => ?_)
    · rw [if_pos c] at h
      exact hk106  m _ hf h
    · rw [if_neg c] at h
      obtain ⟨x10, ex10, g, h⟩ := jld_some h
      refine jem (p := x10 = 0) (fun c => ?_) (fun c => ?_)
      · rw [if_pos c] at h
        exact ih (v2 + (1 : Int32)) m _ hf h
      · rw [if_neg c] at h
        obtain ⟨u11, m12, zm12, h⟩ := jbd_some h
        replace hf := jfr_tr hf (jfr_sub (W := W_O_goOnFrom) rfl (fr_O_goOnFrom zm12))
        exact ih (v2 + (1 : Int32)) m12 _ hf h
theorem fr_O_countAhead {m : jMem} {r : (Unit × jMem)} (h : f_O_countAhead m = some r) : jfr W_O_countAhead m r.2 := by
  unfold f_O_countAhead at h
  have hf : jfr W_O_countAhead m m := jfr_rf
  refine fr_lp_O_countAhead_2 _ ?_ _ (0 : Int32) m _ hf h
  intro m4 r hf h
  obtain ⟨x5, m6, zm6, h⟩ := jbd_some h
  replace hf := jfr_tr hf (jfr_sub (W := W_C_bit) rfl (fr_C_bit zm6))
  refine fr_lp_O_countAhead_53 (x5 - (1 : Int32)) _ ?_ _ (0 : Int32) m6 _ hf h
  intro m9 r hf h
  refine fr_lp_O_countAhead_81 (x5 - (1 : Int32)) _ ?_ _ (0 : Int32) m9 _ hf h
  intro m13 r hf h
  cases h
  exact hf

def W_O_bestQuestion : List (Nat × Nat) := [(94, 0), (95, 0), (97, 0), (98, 0), (99, 0), (100, 0), (101, 0), (102, 0), (103, 0), (104, 0), (105, 0), (106, 0), (107, 0), (108, 0)]
theorem fr_lp_O_bestQuestion_41 {m0 : jMem} (v1 : Int32) (v4 : Int32) (k111 : Int32 → Int32 → jMem → Option (Int32 × jMem))
    (hk111 : ∀ (v2 : Int32) (v3 : Int32) (m : jMem) (r : (Int32 × jMem)), jfr W_O_bestQuestion m0 m → k111 v2 v3 m = some r → jfr W_O_bestQuestion m0 r.2) : ∀ (n : Nat) (v2 : Int32) (v3 : Int32) (v5 : Int32) (m : jMem) (r : (Int32 × jMem)), jfr W_O_bestQuestion m0 m → lp_O_bestQuestion_41 v1 v4 k111 n v2 v3 v5 m = some r → jfr W_O_bestQuestion m0 r.2 := by
  intro n
  induction n with
  | zero => intro v2 v3 v5 m r hf h; unfold lp_O_bestQuestion_41 at h; cases h
  | succ n ih =>
    intro v2 v3 v5 m r hf h
    unfold lp_O_bestQuestion_41 at h
    refine jem (p := (m 89 6) ≤ v5) (fun c => ?_) (fun c => ?_)
    · rw [if_pos c] at h
      exact hk111 v2 v3 m _ hf h
    · rw [if_neg c] at h
      obtain ⟨q5, eq5, gq5, h⟩ := jl3_some h
      obtain ⟨x6, ex6, g, h⟩ := jld_some h
      obtain ⟨q7, eq7, gq7, h⟩ := jl3_some h
      obtain ⟨x8, ex8, g, h⟩ := jld_some h
      refine jem (p := (jmin x6 (v1 - x8)) ≤ v3) (fun c => ?_) (fun c => ?_)
      · rw [if_pos c] at h
        exact ih v2 v3 (v5 + (1 : Int32)) m _ hf h
      · rw [if_neg c] at h
        obtain ⟨x9, ex9, g, h⟩ := jld_some h
        obtain ⟨x10, ex10, g, h⟩ := jld_some h
        exact ih (((32 : Int32) * x9) + x10) (jmin x6 (v1 - x8)) (v5 + (1 : Int32)) m _ hf h
theorem fr_lp_O_bestQuestion_26 {m0 : jMem} (v1 : Int32) (k117 : Int32 → jMem → Option (Int32 × jMem))
    (hk117 : ∀ (v2 : Int32) (m : jMem) (r : (Int32 × jMem)), jfr W_O_bestQuestion m0 m → k117 v2 m = some r → jfr W_O_bestQuestion m0 r.2) : ∀ (n : Nat) (v2 : Int32) (v3 : Int32) (v4 : Int32) (m : jMem) (r : (Int32 × jMem)), jfr W_O_bestQuestion m0 m → lp_O_bestQuestion_26 v1 k117 n v2 v3 v4 m = some r → jfr W_O_bestQuestion m0 r.2 := by
  intro n
  induction n with
  | zero => intro v2 v3 v4 m r hf h; unfold lp_O_bestQuestion_26 at h; cases h
  | succ n ih =>
    intro v2 v3 v4 m r hf h
    unfold lp_O_bestQuestion_26 at h
    refine jem (p := (m 89 6) ≤ v4) (fun c => ?_) (fun c => ?_)
    · rw [if_pos c] at h
      exact hk117 v2 m _ hf h
    · rw [if_neg c] at h
      refine fr_lp_O_bestQuestion_41 v1 v4 _ ?_ _ v2 v3 (v4 + (1 : Int32)) m _ hf h
      intro w12 w13 m11 r hf h
      exact ih w12 w13 (v4 + (1 : Int32)) m11 _ hf h
theorem fr_O_bestQuestion {m : jMem} {r : (Int32 × jMem)} (h : f_O_bestQuestion m = some r) : jfr W_O_bestQuestion m r.2 := by
  unfold f_O_bestQuestion at h
  have hf : jfr W_O_bestQuestion m m := jfr_rf
  refine jem (p := (2 : Int32) ≤ (m 89 6)) (fun c => ?_) (fun c => ?_)
  · rw [if_pos c] at h
    obtain ⟨x1, m2, zm2, h⟩ := jbd_some h
    replace hf := jfr_tr hf (jfr_sub (W := W_O_howMany) rfl (fr_O_howMany zm2))
    obtain ⟨u3, m4, zm4, h⟩ := jbd_some h
    replace hf := jfr_tr hf (jfr_sub (W := W_O_countAhead) rfl (fr_O_countAhead zm4))
    refine fr_lp_O_bestQuestion_26 x1 _ ?_ _ (-1 : Int32) (-1 : Int32) (0 : Int32) m4 _ hf h
    intro w15 m14 r hf h
    cases h
    exact hf
  · rw [if_neg c] at h
    cases h
    exact hf
