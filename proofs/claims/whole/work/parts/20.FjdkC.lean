def W_S_isDigit : List (Nat × Nat) := []
theorem fr_S_isDigit {v0 : Int32} {m : jMem} {r : (Int32 × jMem)} (h : f_S_isDigit v0 m = some r) : jfr W_S_isDigit m r.2 := by
  unfold f_S_isDigit at h
  have hf : jfr W_S_isDigit m m := jfr_rf
  refine jem (p := v0 < (48 : Int32)) (fun c => ?_) (fun c => ?_)
  · rw [if_pos c] at h
    cases h
    exact hf
  · rw [if_neg c] at h
    refine jem (p := (57 : Int32) < v0) (fun c => ?_) (fun c => ?_)
    · rw [if_pos c] at h
      cases h
      exact hf
    · rw [if_neg c] at h
      cases h
      exact hf

def W_S_isOneSign : List (Nat × Nat) := []
theorem fr_S_isOneSign {v0 : Int32} {v1 : Int32} {m : jMem} {r : (Int32 × jMem)} (h : f_S_isOneSign v0 v1 m = some r) : jfr W_S_isOneSign m r.2 := by
  unfold f_S_isOneSign at h
  have hf : jfr W_S_isOneSign m m := jfr_rf
  refine jem (p := v0 = (60 : Int32)) (fun c => ?_) (fun c => ?_)
  · rw [if_pos c] at h
    refine jem (p := v1 = (61 : Int32)) (fun c => ?_) (fun c => ?_)
    · rw [if_pos c] at h
      cases h
      exact hf
    · rw [if_neg c] at h
      refine jem_ne (p := v0 = (60 : Int32)) (fun c => ?_) (fun c => ?_)
      · rw [if_neg c] at h
        cases h
        exact hf
      · rw [if_pos c] at h
        refine jem_ne (p := v1 = (62 : Int32)) (fun c => ?_) (fun c => ?_)
        · rw [if_neg c] at h
          cases h
          exact hf
        · rw [if_pos c] at h
          cases h
          exact hf
  · rw [if_neg c] at h
    refine jem_ne (p := v0 = (62 : Int32)) (fun c => ?_) (fun c => ?_)
    · rw [if_neg c] at h
      refine jem_ne (p := v0 = (60 : Int32)) (fun c => ?_) (fun c => ?_)
      · rw [if_neg c] at h
        cases h
        exact hf
      · rw [if_pos c] at h
        refine jem_ne (p := v1 = (62 : Int32)) (fun c => ?_) (fun c => ?_)
        · rw [if_neg c] at h
          cases h
          exact hf
        · rw [if_pos c] at h
          cases h
          exact hf
    · rw [if_pos c] at h
      refine jem (p := v1 = (61 : Int32)) (fun c => ?_) (fun c => ?_)
      · rw [if_pos c] at h
        cases h
        exact hf
      · rw [if_neg c] at h
        refine jem_ne (p := v0 = (60 : Int32)) (fun c => ?_) (fun c => ?_)
        · rw [if_neg c] at h
          cases h
          exact hf
        · rw [if_pos c] at h
          refine jem_ne (p := v1 = (62 : Int32)) (fun c => ?_) (fun c => ?_)
          · rw [if_neg c] at h
            cases h
            exact hf
          · rw [if_pos c] at h
            cases h
            exact hf

def W_S_isSmallLetter : List (Nat × Nat) := []
theorem fr_S_isSmallLetter {v0 : Int32} {m : jMem} {r : (Int32 × jMem)} (h : f_S_isSmallLetter v0 m = some r) : jfr W_S_isSmallLetter m r.2 := by
  unfold f_S_isSmallLetter at h
  have hf : jfr W_S_isSmallLetter m m := jfr_rf
  refine jem (p := v0 < (97 : Int32)) (fun c => ?_) (fun c => ?_)
  · rw [if_pos c] at h
    cases h
    exact hf
  · rw [if_neg c] at h
    refine jem (p := (122 : Int32) < v0) (fun c => ?_) (fun c => ?_)
    · rw [if_pos c] at h
      cases h
      exact hf
    · rw [if_neg c] at h
      cases h
      exact hf

def W_S_endOf : List (Nat × Nat) := []
theorem fr_lp_S_endOf_54 {m0 : jMem} (k109 : Int32 → jMem → Option (Int32 × jMem))
    (hk109 : ∀ (v2 : Int32) (m : jMem) (r : (Int32 × jMem)), jfr W_S_endOf m0 m → k109 v2 m = some r → jfr W_S_endOf m0 r.2) : ∀ (n : Nat) (v2 : Int32) (m : jMem) (r : (Int32 × jMem)), jfr W_S_endOf m0 m → lp_S_endOf_54 k109 n v2 m = some r → jfr W_S_endOf m0 r.2 := by
  intro n
  induction n with
  | zero => intro v2 m r hf h; unfold lp_S_endOf_54 at h; cases h
  | succ n ih =>
    intro v2 m r hf h
    unfold lp_S_endOf_54 at h
    refine jem (p := (m 24 1) ≤ v2) (fun c => ?_) (fun c => ?_)
    · rw [if_pos c] at h
      exact hk109 v2 m _ hf h
    · rw [if_neg c] at h
      obtain ⟨x11, ex11, g, h⟩ := jld_some h
      obtain ⟨x12, m13, zm13, h⟩ := jbd_some h
      replace hf := jfr_tr hf (jfr_sub (W := W_S_isDigit) rfl (fr_S_isDigit zm13))
      refine jem (p := x12 = 0) (fun c => ?_) (fun c => ?_)
      · rw [if_pos c] at h
        exact hk109 v2 m13 _ hf h
      · rw [if_neg c] at h
        exact ih (v2 + (1 : Int32)) m13 _ hf h
theorem fr_lp_S_endOf_16 {m0 : jMem} (k109 : Int32 → jMem → Option (Int32 × jMem))
    (hk109 : ∀ (v2 : Int32) (m : jMem) (r : (Int32 × jMem)), jfr W_S_endOf m0 m → k109 v2 m = some r → jfr W_S_endOf m0 r.2) : ∀ (n : Nat) (v2 : Int32) (m : jMem) (r : (Int32 × jMem)), jfr W_S_endOf m0 m → lp_S_endOf_16 k109 n v2 m = some r → jfr W_S_endOf m0 r.2 := by
  intro n
  induction n with
  | zero => intro v2 m r hf h; unfold lp_S_endOf_16 at h; cases h
  | succ n ih =>
    intro v2 m r hf h
    unfold lp_S_endOf_16 at h
    refine jem (p := (m 24 1) ≤ v2) (fun c => ?_) (fun c => ?_)
    · rw [if_pos c] at h
      exact hk109 v2 m _ hf h
    · rw [if_neg c] at h
      obtain ⟨x16, ex16, g, h⟩ := jld_some h
      obtain ⟨x17, m18, zm18, h⟩ := jbd_some h
      replace hf := jfr_tr hf (jfr_sub (W := W_S_isSmallLetter) rfl (fr_S_isSmallLetter zm18))
      refine jem (p := x17 = 0) (fun c => ?_) (fun c => ?_)
      · rw [if_pos c] at h
        exact hk109 v2 m18 _ hf h
      · rw [if_neg c] at h
        exact ih (v2 + (1 : Int32)) m18 _ hf h
theorem fr_S_endOf {v1 : Int32} {m : jMem} {r : (Int32 × jMem)} (h : f_S_endOf v1 m = some r) : jfr W_S_endOf m r.2 := by
  unfold f_S_endOf at h
  have hf : jfr W_S_endOf m m := jfr_rf
  obtain ⟨x1, ex1, g, h⟩ := jld_some h
  obtain ⟨x2, m3, zm3, h⟩ := jbd_some h
  replace hf := jfr_tr hf (jfr_sub (W := W_S_isSmallLetter) rfl (fr_S_isSmallLetter zm3))
  refine jem (p := x2 = 0) (fun c => ?_) (fun c => ?_)
  · rw [if_pos c] at h
    obtain ⟨x4, ex4, g, h⟩ := jld_some h
    obtain ⟨x5, m6, zm6, h⟩ := jbd_some h
    replace hf := jfr_tr hf (jfr_sub (W := W_S_isDigit) rfl (fr_S_isDigit zm6))
    refine jem (p := x5 = 0) (fun c => ?_) (fun c => ?_)
    · rw [if_pos c] at h
      refine jem (p := (m6 24 1) ≤ (v1 + (1 : Int32))) (fun c => ?_) (fun c => ?_)
      · rw [if_pos c] at h
        cases h
        exact hf
      · rw [if_neg c] at h
        obtain ⟨x7, ex7, g, h⟩ := jld_some h
        obtain ⟨x8, ex8, g, h⟩ := jld_some h
        obtain ⟨x9, m10, zm10, h⟩ := jbd_some h
        replace hf := jfr_tr hf (jfr_sub (W := W_S_isOneSign) rfl (fr_S_isOneSign zm10))
        refine jem (p := x9 = 0) (fun c => ?_) (fun c => ?_)
        · rw [if_pos c] at h
          cases h
          exact hf
        · rw [if_neg c] at h
          cases h
          exact hf
    · rw [if_neg c] at h
      refine fr_lp_S_endOf_54 _ ?_ _ (v1 + (1 : Int32)) m6 _ hf h
      intro w15 m14 r hf h
      cases h
      exact hf
  · rw [if_neg c] at h
    refine fr_lp_S_endOf_16 _ ?_ _ (v1 + (1 : Int32)) m3 _ hf h
    intro w20 m19 r hf h
    cases h
    exact hf

def W_S_put : List (Nat × Nat) := [(24, 6), (25, 0), (26, 0), (27, 0)]
theorem fr_S_put {v1 : Nat} {v2 : Int32} {v3 : Int32} {m : jMem} {r : (Unit × jMem)} (h : f_S_put v1 v2 v3 m = some r) : jfr W_S_put m r.2 := by
  unfold f_S_put at h
  have hf : jfr W_S_put m m := jfr_rf
  refine jem (p := (401 : Int32) ≤ (m 24 5)) (fun c => ?_) (fun c => ?_)
  · rw [if_pos c] at h
    cases h
    exact hf
  · rw [if_neg c] at h
    obtain ⟨gt, h⟩ := jgd_some h
    obtain ⟨m1, hm1, g, h⟩ := jst_some h
    replace hf := jfr_tr hf (jfr_ua hm1 rfl)
    obtain ⟨m2, hm2, g, h⟩ := jst_some h
    replace hf := jfr_tr hf (jfr_ua hm2 rfl)
    obtain ⟨m3, hm3, g, h⟩ := jst_some h
    replace hf := jfr_tr hf (jfr_ua hm3 rfl)
    obtain ⟨m4, hm4, h⟩ := jpu_some h
    replace hf := jfr_tr hf (jfr_up hm4 rfl)
    cases h
    exact hf

def W_S_spells : List (Nat × Nat) := []
theorem fr_lp_S_spells_15 {m0 : jMem} (v1 : Nat) (v2 : Int32) (v3 : Int32) (k39 : jMem → Option (Int32 × jMem)) (k47 : jMem → Option (Int32 × jMem))
    (hk39 : ∀ (m : jMem) (r : (Int32 × jMem)), jfr W_S_spells m0 m → k39 m = some r → jfr W_S_spells m0 r.2)
    (hk47 : ∀ (m : jMem) (r : (Int32 × jMem)), jfr W_S_spells m0 m → k47 m = some r → jfr W_S_spells m0 r.2) : ∀ (n : Nat) (v4 : Int32) (m : jMem) (r : (Int32 × jMem)), jfr W_S_spells m0 m → lp_S_spells_15 v1 v2 v3 k39 k47 n v4 m = some r → jfr W_S_spells m0 r.2 := by
  intro n
  induction n with
  | zero => intro v4 m r hf h; unfold lp_S_spells_15 at h; cases h
  | succ n ih =>
    intro v4 m r hf h
    unfold lp_S_spells_15 at h
    refine jem (p := v3 ≤ v4) (fun c => ?_) (fun c => ?_)
    · rw [if_pos c] at h
      exact hk47  m _ hf h
    · rw [if_neg c] at h
      obtain ⟨x2, ex2, g, h⟩ := jSC_some h
      obtain ⟨x3, ex3, g, h⟩ := jld_some h
      refine jem (p := x2 = x3) (fun c => ?_) (fun c => ?_)
      · rw [if_pos c] at h
        exact ih (v4 + (1 : Int32)) m _ hf h
      · rw [if_neg c] at h
        exact hk39  m _ hf h
theorem fr_S_spells {v1 : Nat} {v2 : Int32} {v3 : Int32} {m : jMem} {r : (Int32 × jMem)} (h : f_S_spells v1 v2 v3 m = some r) : jfr W_S_spells m r.2 := by
  unfold f_S_spells at h
  have hf : jfr W_S_spells m m := jfr_rf
  obtain ⟨x1, ex1, g, h⟩ := jSL_some h
  refine jem (p := x1 = (v3 - v2)) (fun c => ?_) (fun c => ?_)
  · rw [if_pos c] at h
    refine fr_lp_S_spells_15 v1 v2 v3 _ _ ?_ ?_ _ v2 m _ hf h
    · intro m4 r hf h
      cases h
      exact hf
    · intro m5 r hf h
      cases h
      exact hf
  · rw [if_neg c] at h
    cases h
    exact hf

def W_S_spelled : List (Nat × Nat) := []
theorem fr_lp_S_spelled_11 {m0 : jMem} (v1 : Int32) (v2 : Int32) (v4 : Int32) (k38 : Nat → jMem → Option (Nat × jMem)) (k47 : jMem → Option (Nat × jMem))
    (hk38 : ∀ (v6 : Nat) (m : jMem) (r : (Nat × jMem)), jfr W_S_spelled m0 m → k38 v6 m = some r → jfr W_S_spelled m0 r.2)
    (hk47 : ∀ (m : jMem) (r : (Nat × jMem)), jfr W_S_spelled m0 m → k47 m = some r → jfr W_S_spelled m0 r.2) : ∀ (n : Nat) (v5 : Int32) (m : jMem) (r : (Nat × jMem)), jfr W_S_spelled m0 m → lp_S_spelled_11 v1 v2 v4 k38 k47 n v5 m = some r → jfr W_S_spelled m0 r.2 := by
  intro n
  induction n with
  | zero => intro v5 m r hf h; unfold lp_S_spelled_11 at h; cases h
  | succ n ih =>
    intro v5 m r hf h
    unfold lp_S_spelled_11 at h
    refine jem (p := v4 ≤ v5) (fun c => ?_) (fun c => ?_)
    · rw [if_pos c] at h
      exact hk47  m _ hf h
    · rw [if_neg c] at h
      obtain ⟨q1, eq1, g, h⟩ := jL33_some h
      obtain ⟨g, h⟩ := jgd_some h
      obtain ⟨q2, eq2, h⟩ := jlt_some h
      obtain ⟨x3, m4, zm4, h⟩ := jbd_some h
      replace hf := jfr_tr hf (jfr_sub (W := W_S_spells) rfl (fr_S_spells zm4))
      refine jem (p := x3 = 0) (fun c => ?_) (fun c => ?_)
      · rw [if_pos c] at h
        exact ih (v5 + (1 : Int32)) m4 _ hf h
      · rw [if_neg c] at h
        exact hk38 q1 m4 _ hf h
theorem fr_S_spelled {v1 : Int32} {v2 : Int32} {m : jMem} {r : (Nat × jMem)} (h : f_S_spelled v1 v2 m = some r) : jfr W_S_spelled m r.2 := by
  unfold f_S_spelled at h
  have hf : jfr W_S_spelled m m := jfr_rf
  refine fr_lp_S_spelled_11 v1 v2 (33 : Int32) _ _ ?_ ?_ _ (0 : Int32) m _ hf h
  · intro w6 m5 r hf h
    cases h
    exact hf
  · intro m7 r hf h
    cases h
    exact hf

def W_S_worthOf : List (Nat × Nat) := []
theorem fr_lp_S_worthOf_4 {m0 : jMem} (k51 : Int32 → jMem → Option (Int32 × jMem))
    (hk51 : ∀ (v2 : Int32) (m : jMem) (r : (Int32 × jMem)), jfr W_S_worthOf m0 m → k51 v2 m = some r → jfr W_S_worthOf m0 r.2) : ∀ (n : Nat) (v2 : Int32) (v3 : Int32) (m : jMem) (r : (Int32 × jMem)), jfr W_S_worthOf m0 m → lp_S_worthOf_4 k51 n v2 v3 m = some r → jfr W_S_worthOf m0 r.2 := by
  intro n
  induction n with
  | zero => intro v2 v3 m r hf h; unfold lp_S_worthOf_4 at h; cases h
  | succ n ih =>
    intro v2 v3 m r hf h
    unfold lp_S_worthOf_4 at h
    refine jem (p := (m 24 1) ≤ v3) (fun c => ?_) (fun c => ?_)
    · rw [if_pos c] at h
      exact hk51 v2 m _ hf h
    · rw [if_neg c] at h
      obtain ⟨x1, ex1, g, h⟩ := jld_some h
      obtain ⟨x2, m3, zm3, h⟩ := jbd_some h
      replace hf := jfr_tr hf (jfr_sub (W := W_S_isDigit) rfl (fr_S_isDigit zm3))
      refine jem (p := x2 = 0) (fun c => ?_) (fun c => ?_)
      · rw [if_pos c] at h
        exact hk51 v2 m3 _ hf h
      · rw [if_neg c] at h
        obtain ⟨x4, ex4, g, h⟩ := jld_some h
        exact ih (jmin (1000 : Int32) (((v2 * (10 : Int32)) + x4) - (48 : Int32))) (v3 + (1 : Int32)) m3 _ hf h
theorem fr_S_worthOf {v1 : Int32} {m : jMem} {r : (Int32 × jMem)} (h : f_S_worthOf v1 m = some r) : jfr W_S_worthOf m r.2 := by
  unfold f_S_worthOf at h
  have hf : jfr W_S_worthOf m m := jfr_rf
  refine fr_lp_S_worthOf_4 _ ?_ _ (0 : Int32) v1 m _ hf h
  intro w6 m5 r hf h
  cases h
  exact hf

def W_S_cut : List (Nat × Nat) := [(24, 2), (24, 6), (25, 0), (26, 0), (27, 0)]
theorem fr_lp_S_cut_20 {m0 : jMem} (k109 : jMem → Option (Unit × jMem))
    (hk109 : ∀ (m : jMem) (r : (Unit × jMem)), jfr W_S_cut m0 m → k109 m = some r → jfr W_S_cut m0 r.2) : ∀ (n : Nat) (v2 : Int32) (m : jMem) (r : (Unit × jMem)), jfr W_S_cut m0 m → lp_S_cut_20 k109 n v2 m = some r → jfr W_S_cut m0 r.2 := by
  intro n
  induction n with
  | zero => intro v2 m r hf h; unfold lp_S_cut_20 at h; cases h
  | succ n ih =>
    intro v2 m r hf h
    unfold lp_S_cut_20 at h
    refine jem (p := (m 24 1) ≤ v2) (fun c => ?_) (fun c => ?_)
    · rw [if_pos c] at h
      exact hk109  m _ hf h
    · rw [if_neg c] at h
      obtain ⟨x3, ex3, g, h⟩ := jld_some h
      obtain ⟨x4, m5, zm5, h⟩ := jbd_some h
      replace hf := jfr_tr hf (jfr_sub (W := W_S_isDigit) rfl (fr_S_isDigit zm5))
      refine jem (p := x4 = 0) (fun c => ?_) (fun c => ?_)
      · rw [if_pos c] at h
        obtain ⟨x6, ex6, g, h⟩ := jld_some h
        refine jem (p := x6 = (10 : Int32)) (fun c => ?_) (fun c => ?_)
        · rw [if_pos c] at h
          obtain ⟨x7, m8, zm8, h⟩ := jbd_some h
          replace hf := jfr_tr hf (jfr_sub (W := W_S_endOf) rfl (fr_S_endOf zm8))
          exact ih (jmax (v2 + (1 : Int32)) x7) m8 _ hf h
        · rw [if_neg c] at h
          obtain ⟨x9, ex9, g, h⟩ := jld_some h
          refine jem (p := x9 = (32 : Int32)) (fun c => ?_) (fun c => ?_)
          · rw [if_pos c] at h
            obtain ⟨x10, m11, zm11, h⟩ := jbd_some h
            replace hf := jfr_tr hf (jfr_sub (W := W_S_endOf) rfl (fr_S_endOf zm11))
            exact ih (jmax (v2 + (1 : Int32)) x10) m11 _ hf h
          · rw [if_neg c] at h
            obtain ⟨x12, m13, zm13, h⟩ := jbd_some h
            replace hf := jfr_tr hf (jfr_sub (W := W_S_endOf) rfl (fr_S_endOf zm13))
            obtain ⟨q14, m15, zm15, h⟩ := jbd_some h
            replace hf := jfr_tr hf (jfr_sub (W := W_S_spelled) rfl (fr_S_spelled zm15))
            obtain ⟨u16, m17, zm17, h⟩ := jbd_some h
            replace hf := jfr_tr hf (jfr_sub (W := W_S_put) rfl (fr_S_put zm17))
            obtain ⟨x18, m19, zm19, h⟩ := jbd_some h
            replace hf := jfr_tr hf (jfr_sub (W := W_S_endOf) rfl (fr_S_endOf zm19))
            exact ih (jmax (v2 + (1 : Int32)) x18) m19 _ hf h
      · rw [if_neg c] at h
        obtain ⟨x20, m21, zm21, h⟩ := jbd_some h
        replace hf := jfr_tr hf (jfr_sub (W := W_S_worthOf) rfl (fr_S_worthOf zm21))
        obtain ⟨u22, m23, zm23, h⟩ := jbd_some h
        replace hf := jfr_tr hf (jfr_sub (W := W_S_put) rfl (fr_S_put zm23))
        obtain ⟨x24, m25, zm25, h⟩ := jbd_some h
        replace hf := jfr_tr hf (jfr_sub (W := W_S_endOf) rfl (fr_S_endOf zm25))
        exact ih (jmax (v2 + (1 : Int32)) x24) m25 _ hf h
theorem fr_S_cut {v1 : Int32} {m : jMem} {r : (Unit × jMem)} (h : f_S_cut v1 m = some r) : jfr W_S_cut m r.2 := by
  unfold f_S_cut at h
  have hf : jfr W_S_cut m m := jfr_rf
  obtain ⟨m1, hm1, h⟩ := jpu_some h
  replace hf := jfr_tr hf (jfr_up hm1 rfl)
  obtain ⟨m2, hm2, h⟩ := jpu_some h
  replace hf := jfr_tr hf (jfr_up hm2 rfl)
  refine fr_lp_S_cut_20 _ ?_ _ (0 : Int32) m2 _ hf h
  intro m26 r hf h
  obtain ⟨u27, m28, zm28, h⟩ := jbd_some h
  replace hf := jfr_tr hf (jfr_sub (W := W_S_put) rfl (fr_S_put zm28))
  cases h
  exact hf

def W_C_bit : List (Nat × Nat) := []
theorem fr_C_bit {v0 : Int32} {m : jMem} {r : (Int32 × jMem)} (h : f_C_bit v0 m = some r) : jfr W_C_bit m r.2 := by
  unfold f_C_bit at h
  have hf : jfr W_C_bit m m := jfr_rf
  cases h
  exact hf

def W_C_isIn : List (Nat × Nat) := []
theorem fr_C_isIn {v0 : Int32} {v1 : Int32} {m : jMem} {r : (Int32 × jMem)} (h : f_C_isIn v0 v1 m = some r) : jfr W_C_isIn m r.2 := by
  unfold f_C_isIn at h
  have hf : jfr W_C_isIn m m := jfr_rf
  refine jem (p := v1 < 0) (fun c => ?_) (fun c => ?_)
  · rw [if_pos c] at h
    cases h
    exact hf
  · rw [if_neg c] at h
    refine jem (p := (30 : Int32) ≤ v1) (fun c => ?_) (fun c => ?_)
    · rw [if_pos c] at h
      cases h
      exact hf
    · rw [if_neg c] at h
      refine jem_ne (p := ((v0 >>> (v1 &&& 31)) &&& (1 : Int32)) = (1 : Int32)) (fun c => ?_) (fun c => ?_)
      · rw [if_neg c] at h
        cases h
        exact hf
      · rw [if_pos c] at h
        cases h
        exact hf

def W_C_isWriter : List (Nat × Nat) := []
theorem fr_C_isWriter {v0 : Int32} {m : jMem} {r : (Int32 × jMem)} (h : f_C_isWriter v0 m = some r) : jfr W_C_isWriter m r.2 := by
  unfold f_C_isWriter at h
  have hf : jfr W_C_isWriter m m := jfr_rf
  refine jem (p := v0 < 0) (fun c => ?_) (fun c => ?_)
  · rw [if_pos c] at h
    cases h
    exact hf
  · rw [if_neg c] at h
    refine jem (p := (6 : Int32) ≤ v0) (fun c => ?_) (fun c => ?_)
    · rw [if_pos c] at h
      cases h
      exact hf
    · rw [if_neg c] at h
      cases h
      exact hf

def W_JI_bitCount : List (Nat × Nat) := []
theorem fr_JI_bitCount {v0 : Int32} {m : jMem} {r : (Int32 × jMem)} (h : f_JI_bitCount v0 m = some r) : jfr W_JI_bitCount m r.2 := by
  unfold f_JI_bitCount at h
  have hf : jfr W_JI_bitCount m m := jfr_rf
  cases h
  exact hf

def W_C_truth : List (Nat × Nat) := []
theorem fr_C_truth {v0 : Int32} {m : jMem} {r : (Int32 × jMem)} (h : f_C_truth v0 m = some r) : jfr W_C_truth m r.2 := by
  unfold f_C_truth at h
  have hf : jfr W_C_truth m m := jfr_rf
  refine jem (p := v0 = 0) (fun c => ?_) (fun c => ?_)
  · rw [if_pos c] at h
    cases h
    exact hf
  · rw [if_neg c] at h
    cases h
    exact hf

def W_C_isBearing : List (Nat × Nat) := []
theorem fr_C_isBearing {v0 : Int32} {m : jMem} {r : (Int32 × jMem)} (h : f_C_isBearing v0 m = some r) : jfr W_C_isBearing m r.2 := by
  unfold f_C_isBearing at h
  have hf : jfr W_C_isBearing m m := jfr_rf
  refine jem (p := v0 < 0) (fun c => ?_) (fun c => ?_)
  · rw [if_pos c] at h
    cases h
    exact hf
  · rw [if_neg c] at h
    refine jem (p := (3 : Int32) < v0) (fun c => ?_) (fun c => ?_)
    · rw [if_pos c] at h
      cases h
      exact hf
    · rw [if_neg c] at h
      cases h
      exact hf
