def W_L_allOf : List (Nat × Nat) := []
theorem fr_lp_L_allOf_5 {m0 : jMem} (v1 : Int32) (v2 : Nat) (k36 : Int32 → jMem → Option (Int32 × jMem))
    (hk36 : ∀ (v3 : Int32) (m : jMem) (r : (Int32 × jMem)), jfr W_L_allOf m0 m → k36 v3 m = some r → jfr W_L_allOf m0 r.2) : ∀ (n : Nat) (v3 : Int32) (v4 : Int32) (m : jMem) (r : (Int32 × jMem)), jfr W_L_allOf m0 m → lp_L_allOf_5 v1 v2 k36 n v3 v4 m = some r → jfr W_L_allOf m0 r.2 := by
  intro n
  induction n with
  | zero => intro v3 v4 m r hf h; unfold lp_L_allOf_5 at h; cases h
  | succ n ih =>
    intro v3 v4 m r hf h
    unfold lp_L_allOf_5 at h
    refine jem (p := (m 29 15) ≤ v4) (fun c => ?_) (fun c => ?_)
    · rw [if_pos c] at h
      exact hk36 v3 m _ hf h
    · rw [if_neg c] at h
      obtain ⟨x1, m2, zm2, h⟩ := jbd_some h
      replace hf := jfr_tr hf (jfr_sub (W := W_C_isIn) rfl (fr_C_isIn zm2))
      refine jem (p := x1 = 0) (fun c => ?_) (fun c => ?_)
      · rw [if_pos c] at h
        exact ih v3 (v4 + (1 : Int32)) m2 _ hf h
      · rw [if_neg c] at h
        obtain ⟨x3, ex3, g, h⟩ := jld_some h
        exact ih (v3 ||| x3) (v4 + (1 : Int32)) m2 _ hf h
theorem fr_L_allOf {v1 : Int32} {v2 : Nat} {m : jMem} {r : (Int32 × jMem)} (h : f_L_allOf v1 v2 m = some r) : jfr W_L_allOf m r.2 := by
  unfold f_L_allOf at h
  have hf : jfr W_L_allOf m m := jfr_rf
  refine fr_lp_L_allOf_5 v1 v2 _ ?_ _ (0 : Int32) (0 : Int32) m _ hf h
  intro w5 m4 r hf h
  cases h
  exact hf

def W_L_answered : List (Nat × Nat) := []
theorem fr_L_answered {v1 : Int32} {m : jMem} {r : (Int32 × jMem)} (h : f_L_answered v1 m = some r) : jfr W_L_answered m r.2 := by
  unfold f_L_answered at h
  have hf : jfr W_L_answered m m := jfr_rf
  obtain ⟨x1, ex1, g, h⟩ := jld_some h
  refine jem (p := x1 = (-1 : Int32)) (fun c => ?_) (fun c => ?_)
  · rw [if_pos c] at h
    obtain ⟨x2, ex2, g, h⟩ := jld_some h
    refine jem (p := x2 = (-1 : Int32)) (fun c => ?_) (fun c => ?_)
    · rw [if_pos c] at h
      cases h
      exact hf
    · rw [if_neg c] at h
      obtain ⟨x3, ex3, g, h⟩ := jld_some h
      obtain ⟨x4, m5, zm5, h⟩ := jbd_some h
      replace hf := jfr_tr hf (jfr_sub (W := W_C_bit) rfl (fr_C_bit zm5))
      cases h
      exact hf
  · rw [if_neg c] at h
    obtain ⟨x6, ex6, g, h⟩ := jld_some h
    obtain ⟨x7, m8, zm8, h⟩ := jbd_some h
    replace hf := jfr_tr hf (jfr_sub (W := W_C_bit) rfl (fr_C_bit zm8))
    obtain ⟨x9, ex9, g, h⟩ := jld_some h
    refine jem (p := x9 = (-1 : Int32)) (fun c => ?_) (fun c => ?_)
    · rw [if_pos c] at h
      cases h
      exact hf
    · rw [if_neg c] at h
      obtain ⟨x10, ex10, g, h⟩ := jld_some h
      obtain ⟨x11, m12, zm12, h⟩ := jbd_some h
      replace hf := jfr_tr hf (jfr_sub (W := W_C_bit) rfl (fr_C_bit zm12))
      cases h
      exact hf

def W_L_greatestSum : List (Nat × Nat) := []
theorem fr_lp_L_greatestSum_4 {m0 : jMem} (v1 : Int32) (k37 : Int32 → jMem → Option (Int32 × jMem))
    (hk37 : ∀ (v2 : Int32) (m : jMem) (r : (Int32 × jMem)), jfr W_L_greatestSum m0 m → k37 v2 m = some r → jfr W_L_greatestSum m0 r.2) : ∀ (n : Nat) (v2 : Int32) (v3 : Int32) (m : jMem) (r : (Int32 × jMem)), jfr W_L_greatestSum m0 m → lp_L_greatestSum_4 v1 k37 n v2 v3 m = some r → jfr W_L_greatestSum m0 r.2 := by
  intro n
  induction n with
  | zero => intro v2 v3 m r hf h; unfold lp_L_greatestSum_4 at h; cases h
  | succ n ih =>
    intro v2 v3 m r hf h
    unfold lp_L_greatestSum_4 at h
    refine jem (p := (m 29 15) ≤ v3) (fun c => ?_) (fun c => ?_)
    · rw [if_pos c] at h
      exact hk37 v2 m _ hf h
    · rw [if_neg c] at h
      obtain ⟨x1, m2, zm2, h⟩ := jbd_some h
      replace hf := jfr_tr hf (jfr_sub (W := W_C_isIn) rfl (fr_C_isIn zm2))
      refine jem (p := x1 = 0) (fun c => ?_) (fun c => ?_)
      · rw [if_pos c] at h
        exact ih v2 (v3 + (1 : Int32)) m2 _ hf h
      · rw [if_neg c] at h
        obtain ⟨x3, ex3, g, h⟩ := jld_some h
        exact ih (jmax v2 x3) (v3 + (1 : Int32)) m2 _ hf h
theorem fr_L_greatestSum {v1 : Int32} {m : jMem} {r : (Int32 × jMem)} (h : f_L_greatestSum v1 m = some r) : jfr W_L_greatestSum m r.2 := by
  unfold f_L_greatestSum at h
  have hf : jfr W_L_greatestSum m m := jfr_rf
  refine fr_lp_L_greatestSum_4 v1 _ ?_ _ (0 : Int32) (0 : Int32) m _ hf h
  intro w5 m4 r hf h
  cases h
  exact hf

def W_L_add : List (Nat × Nat) := [(29, 16), (29, 17), (30, 0), (31, 0), (32, 0), (33, 0), (34, 0), (35, 0), (36, 0), (37, 0), (38, 0), (39, 0), (40, 0), (41, 0), (42, 0), (43, 0)]
theorem fr_lp_L_add_231 {m0 : jMem} (v4 : Int32) (v8 : Int32) (k269 : jMem → Option (Int32 × jMem))
    (hk269 : ∀ (m : jMem) (r : (Int32 × jMem)), jfr W_L_add m0 m → k269 m = some r → jfr W_L_add m0 r.2) : ∀ (n : Nat) (v9 : Int32) (m : jMem) (r : (Int32 × jMem)), jfr W_L_add m0 m → lp_L_add_231 v4 v8 k269 n v9 m = some r → jfr W_L_add m0 r.2 := by
  intro n
  induction n with
  | zero => intro v9 m r hf h; unfold lp_L_add_231 at h; cases h
  | succ n ih =>
    intro v9 m r hf h
    unfold lp_L_add_231 at h
    refine jem (p := (6 : Int32) ≤ v9) (fun c => ?_) (fun c => ?_)
    · rw [if_pos c] at h
      exact hk269  m _ hf h
    · rw [if_neg c] at h
      obtain ⟨x38, m39, zm39, h⟩ := jbd_some h
      replace hf := jfr_tr hf (jfr_sub (W := W_C_isIn) rfl (fr_C_isIn zm39))
      refine jem (p := x38 = 0) (fun c => ?_) (fun c => ?_)
      · rw [if_pos c] at h
        exact ih (v9 + (1 : Int32)) m39 _ hf h
      · rw [if_neg c] at h
        obtain ⟨x40, ex40, g, h⟩ := jld_some h
        obtain ⟨x41, m42, zm42, h⟩ := jbd_some h
        replace hf := jfr_tr hf (jfr_sub (W := W_C_bit) rfl (fr_C_bit zm42))
        obtain ⟨m43, hm43, g, h⟩ := jst_some h
        replace hf := jfr_tr hf (jfr_ua hm43 rfl)
        exact ih (v9 + (1 : Int32)) m43 _ hf h
theorem fr_L_add {v1 : Int32} {v2 : Int32} {v3 : Int32} {v4 : Int32} {v5 : Int32} {v6 : Int32} {v7 : Int32} {m : jMem} {r : (Int32 × jMem)} (h : f_L_add v1 v2 v3 v4 v5 v6 v7 m = some r) : jfr W_L_add m r.2 := by
  unfold f_L_add at h
  have hf : jfr W_L_add m m := jfr_rf
  refine jem (p := (30 : Int32) ≤ (m 29 15)) (fun c => ?_) (fun c => ?_)
  · rw [if_pos c] at h
    cases h
    exact hf
  · rw [if_neg c] at h
    obtain ⟨x1, m2, zm2, h⟩ := jbd_some h
    replace hf := jfr_tr hf (jfr_sub (W := W_C_isWriter) rfl (fr_C_isWriter zm2))
    refine jem_ne (p := x1 = 0) (fun c => ?_) (fun c => ?_)
    · rw [if_neg c] at h
      obtain ⟨m3, hm3, g, h⟩ := jst_some h
      replace hf := jfr_tr hf (jfr_ua hm3 rfl)
      obtain ⟨m4, hm4, g, h⟩ := jst_some h
      replace hf := jfr_tr hf (jfr_ua hm4 rfl)
      obtain ⟨m5, hm5, g, h⟩ := jst_some h
      replace hf := jfr_tr hf (jfr_ua hm5 rfl)
      obtain ⟨m6, hm6, g, h⟩ := jst_some h
      replace hf := jfr_tr hf (jfr_ua hm6 rfl)
      obtain ⟨m7, hm7, g, h⟩ := jst_some h
      replace hf := jfr_tr hf (jfr_ua hm7 rfl)
      obtain ⟨m8, hm8, g, h⟩ := jst_some h
      replace hf := jfr_tr hf (jfr_ua hm8 rfl)
      obtain ⟨m9, hm9, g, h⟩ := jst_some h
      replace hf := jfr_tr hf (jfr_ua hm9 rfl)
      obtain ⟨x10, m11, zm11, h⟩ := jbd_some h
      replace hf := jfr_tr hf (jfr_sub (W := W_L_allOf) rfl (fr_L_allOf zm11))
      obtain ⟨m12, hm12, g, h⟩ := jst_some h
      replace hf := jfr_tr hf (jfr_ua hm12 rfl)
      obtain ⟨x13, m14, zm14, h⟩ := jbd_some h
      replace hf := jfr_tr hf (jfr_sub (W := W_L_answered) rfl (fr_L_answered zm14))
      obtain ⟨x15, m16, zm16, h⟩ := jbd_some h
      replace hf := jfr_tr hf (jfr_sub (W := W_L_answered) rfl (fr_L_answered zm16))
      obtain ⟨x17, m18, zm18, h⟩ := jbd_some h
      replace hf := jfr_tr hf (jfr_sub (W := W_L_allOf) rfl (fr_L_allOf zm18))
      obtain ⟨m19, hm19, g, h⟩ := jst_some h
      replace hf := jfr_tr hf (jfr_ua hm19 rfl)
      obtain ⟨x20, ex20, g, h⟩ := jld_some h
      obtain ⟨x21, ex21, g, h⟩ := jld_some h
      obtain ⟨x22, m23, zm23, h⟩ := jbd_some h
      replace hf := jfr_tr hf (jfr_sub (W := W_L_allOf) rfl (fr_L_allOf zm23))
      obtain ⟨m24, hm24, g, h⟩ := jst_some h
      replace hf := jfr_tr hf (jfr_ua hm24 rfl)
      obtain ⟨x25, ex25, g, h⟩ := jld_some h
      obtain ⟨x26, ex26, g, h⟩ := jld_some h
      obtain ⟨x27, m28, zm28, h⟩ := jbd_some h
      replace hf := jfr_tr hf (jfr_sub (W := W_L_allOf) rfl (fr_L_allOf zm28))
      obtain ⟨m29, hm29, g, h⟩ := jst_some h
      replace hf := jfr_tr hf (jfr_ua hm29 rfl)
      obtain ⟨x30, ex30, g, h⟩ := jld_some h
      obtain ⟨x31, m32, zm32, h⟩ := jbd_some h
      replace hf := jfr_tr hf (jfr_sub (W := W_L_greatestSum) rfl (fr_L_greatestSum zm32))
      obtain ⟨m33, hm33, g, h⟩ := jst_some h
      replace hf := jfr_tr hf (jfr_ua hm33 rfl)
      obtain ⟨x34, ex34, g, h⟩ := jld_some h
      obtain ⟨x35, m36, zm36, h⟩ := jbd_some h
      replace hf := jfr_tr hf (jfr_sub (W := W_C_bit) rfl (fr_C_bit zm36))
      obtain ⟨m37, hm37, g, h⟩ := jst_some h
      replace hf := jfr_tr hf (jfr_ua hm37 rfl)
      refine fr_lp_L_add_231 v4 (m2 29 15) _ ?_ _ (0 : Int32) m37 _ hf h
      intro m44 r hf h
      obtain ⟨x45, m46, zm46, h⟩ := jbd_some h
      replace hf := jfr_tr hf (jfr_sub (W := W_C_bit) rfl (fr_C_bit zm46))
      obtain ⟨m47, hm47, h⟩ := jpu_some h
      replace hf := jfr_tr hf (jfr_up hm47 rfl)
      obtain ⟨m48, hm48, h⟩ := jpu_some h
      replace hf := jfr_tr hf (jfr_up hm48 rfl)
      cases h
      exact hf
    · rw [if_pos c] at h
      cases h
      exact hf

def W_L_isLetter : List (Nat × Nat) := []
theorem fr_L_isLetter {v1 : Int32} {m : jMem} {r : (Int32 × jMem)} (h : f_L_isLetter v1 m = some r) : jfr W_L_isLetter m r.2 := by
  unfold f_L_isLetter at h
  have hf : jfr W_L_isLetter m m := jfr_rf
  refine jem (p := v1 < 0) (fun c => ?_) (fun c => ?_)
  · rw [if_pos c] at h
    cases h
    exact hf
  · rw [if_neg c] at h
    refine jem (p := (m 29 15) ≤ v1) (fun c => ?_) (fun c => ?_)
    · rw [if_pos c] at h
      cases h
      exact hf
    · rw [if_neg c] at h
      cases h
      exact hf

def W_L_areTwo : List (Nat × Nat) := []
theorem fr_L_areTwo {v1 : Int32} {v2 : Int32} {m : jMem} {r : (Int32 × jMem)} (h : f_L_areTwo v1 v2 m = some r) : jfr W_L_areTwo m r.2 := by
  unfold f_L_areTwo at h
  have hf : jfr W_L_areTwo m m := jfr_rf
  obtain ⟨x1, m2, zm2, h⟩ := jbd_some h
  replace hf := jfr_tr hf (jfr_sub (W := W_L_isLetter) rfl (fr_L_isLetter zm2))
  refine jem (p := x1 = 0) (fun c => ?_) (fun c => ?_)
  · rw [if_pos c] at h
    cases h
    exact hf
  · rw [if_neg c] at h
    obtain ⟨x3, m4, zm4, h⟩ := jbd_some h
    replace hf := jfr_tr hf (jfr_sub (W := W_L_isLetter) rfl (fr_L_isLetter zm4))
    refine jem (p := x3 = 0) (fun c => ?_) (fun c => ?_)
    · rw [if_pos c] at h
      cases h
      exact hf
    · rw [if_neg c] at h
      refine jem (p := v1 = v2) (fun c => ?_) (fun c => ?_)
      · rw [if_pos c] at h
        cases h
        exact hf
      · rw [if_neg c] at h
        cases h
        exact hf

def W_L_firstThatKnew : List (Nat × Nat) := []
theorem fr_lp_L_firstThatKnew_2 {m0 : jMem} (v1 : Int32) (v2 : Int32) (k31 : Int32 → jMem → Option (Int32 × jMem)) (k39 : jMem → Option (Int32 × jMem))
    (hk31 : ∀ (v3 : Int32) (m : jMem) (r : (Int32 × jMem)), jfr W_L_firstThatKnew m0 m → k31 v3 m = some r → jfr W_L_firstThatKnew m0 r.2)
    (hk39 : ∀ (m : jMem) (r : (Int32 × jMem)), jfr W_L_firstThatKnew m0 m → k39 m = some r → jfr W_L_firstThatKnew m0 r.2) : ∀ (n : Nat) (v3 : Int32) (m : jMem) (r : (Int32 × jMem)), jfr W_L_firstThatKnew m0 m → lp_L_firstThatKnew_2 v1 v2 k31 k39 n v3 m = some r → jfr W_L_firstThatKnew m0 r.2 := by
  intro n
  induction n with
  | zero => intro v3 m r hf h; unfold lp_L_firstThatKnew_2 at h; cases h
  | succ n ih =>
    intro v3 m r hf h
    unfold lp_L_firstThatKnew_2 at h
    refine jem (p := (m 29 15) ≤ v3) (fun c => ?_) (fun c => ?_)
    · rw [if_pos c] at h
      exact hk39  m _ hf h
    · rw [if_neg c] at h
      obtain ⟨x1, m2, zm2, h⟩ := jbd_some h
      replace hf := jfr_tr hf (jfr_sub (W := W_C_isIn) rfl (fr_C_isIn zm2))
      refine jem (p := x1 = 0) (fun c => ?_) (fun c => ?_)
      · rw [if_pos c] at h
        exact ih (v3 + (1 : Int32)) m2 _ hf h
      · rw [if_neg c] at h
        obtain ⟨x3, ex3, g, h⟩ := jld_some h
        obtain ⟨x4, m5, zm5, h⟩ := jbd_some h
        replace hf := jfr_tr hf (jfr_sub (W := W_C_isIn) rfl (fr_C_isIn zm5))
        refine jem (p := x4 = 0) (fun c => ?_) (fun c => ?_)
        · rw [if_pos c] at h
          exact ih (v3 + (1 : Int32)) m5 _ hf h
        · rw [if_neg c] at h
          exact hk31 v3 m5 _ hf h
theorem fr_L_firstThatKnew {v1 : Int32} {v2 : Int32} {m : jMem} {r : (Int32 × jMem)} (h : f_L_firstThatKnew v1 v2 m = some r) : jfr W_L_firstThatKnew m r.2 := by
  unfold f_L_firstThatKnew at h
  have hf : jfr W_L_firstThatKnew m m := jfr_rf
  refine fr_lp_L_firstThatKnew_2 v1 v2 _ _ ?_ ?_ _ (0 : Int32) m _ hf h
  · intro w7 m6 r hf h
    cases h
    exact hf
  · intro m8 r hf h
    cases h
    exact hf

def W_L_ringsRound : List (Nat × Nat) := [(44, 0)]
theorem fr_lp_L_ringsRound_15 {m0 : jMem} (v2 : Int32) (k74 : Int32 → jMem → Option (Int32 × jMem)) (k83 : jMem → Option (Int32 × jMem))
    (hk74 : ∀ (v4 : Int32) (m : jMem) (r : (Int32 × jMem)), jfr W_L_ringsRound m0 m → k74 v4 m = some r → jfr W_L_ringsRound m0 r.2)
    (hk83 : ∀ (m : jMem) (r : (Int32 × jMem)), jfr W_L_ringsRound m0 m → k83 m = some r → jfr W_L_ringsRound m0 r.2) : ∀ (n : Nat) (v3 : Int32) (v4 : Int32) (m : jMem) (r : (Int32 × jMem)), jfr W_L_ringsRound m0 m → lp_L_ringsRound_15 v2 k74 k83 n v3 v4 m = some r → jfr W_L_ringsRound m0 r.2 := by
  intro n
  induction n with
  | zero => intro v3 v4 m r hf h; unfold lp_L_ringsRound_15 at h; cases h
  | succ n ih =>
    intro v3 v4 m r hf h
    unfold lp_L_ringsRound_15 at h
    refine jem (p := (30 : Int32) ≤ v4) (fun c => ?_) (fun c => ?_)
    · rw [if_pos c] at h
      exact hk83  m _ hf h
    · rw [if_neg c] at h
      obtain ⟨x4, ex4, g, h⟩ := jld_some h
      obtain ⟨x5, m6, zm6, h⟩ := jbd_some h
      replace hf := jfr_tr hf (jfr_sub (W := W_L_allOf) rfl (fr_L_allOf zm6))
      obtain ⟨m7, hm7, g, h⟩ := jst_some h
      replace hf := jfr_tr hf (jfr_ua hm7 rfl)
      obtain ⟨x8, ex8, g, h⟩ := jld_some h
      obtain ⟨x9, ex9, g, h⟩ := jld_some h
      obtain ⟨x10, m11, zm11, h⟩ := jbd_some h
      replace hf := jfr_tr hf (jfr_sub (W := W_C_isIn) rfl (fr_C_isIn zm11))
      refine jem (p := x10 = 0) (fun c => ?_) (fun c => ?_)
      · rw [if_pos c] at h
        exact ih (v3 ||| x8) (v4 + (1 : Int32)) m11 _ hf h
      · rw [if_neg c] at h
        exact hk74 v4 m11 _ hf h
theorem fr_L_ringsRound {v1 : Int32} {v2 : Int32} {m : jMem} {r : (Int32 × jMem)} (h : f_L_ringsRound v1 v2 m = some r) : jfr W_L_ringsRound m r.2 := by
  unfold f_L_ringsRound at h
  have hf : jfr W_L_ringsRound m m := jfr_rf
  obtain ⟨x1, m2, zm2, h⟩ := jbd_some h
  replace hf := jfr_tr hf (jfr_sub (W := W_C_bit) rfl (fr_C_bit zm2))
  obtain ⟨m3, hm3, g, h⟩ := jst_some h
  replace hf := jfr_tr hf (jfr_ua hm3 rfl)
  refine fr_lp_L_ringsRound_15 v2 _ _ ?_ ?_ _ x1 (1 : Int32) m3 _ hf h
  · intro w13 m12 r hf h
    cases h
    exact hf
  · intro m14 r hf h
    cases h
    exact hf

def W_L_onShortestWay : List (Nat × Nat) := [(44, 0)]
theorem fr_lp_L_onShortestWay_28 {m0 : jMem} (v3 : Int32) (v4 : Int32) (k64 : Int32 → jMem → Option (Int32 × jMem))
    (hk64 : ∀ (v5 : Int32) (m : jMem) (r : (Int32 × jMem)), jfr W_L_onShortestWay m0 m → k64 v5 m = some r → jfr W_L_onShortestWay m0 r.2) : ∀ (n : Nat) (v5 : Int32) (v6 : Int32) (m : jMem) (r : (Int32 × jMem)), jfr W_L_onShortestWay m0 m → lp_L_onShortestWay_28 v3 v4 k64 n v5 v6 m = some r → jfr W_L_onShortestWay m0 r.2 := by
  intro n
  induction n with
  | zero => intro v5 v6 m r hf h; unfold lp_L_onShortestWay_28 at h; cases h
  | succ n ih =>
    intro v5 v6 m r hf h
    unfold lp_L_onShortestWay_28 at h
    refine jem (p := v3 < v6) (fun c => ?_) (fun c => ?_)
    · rw [if_pos c] at h
      exact hk64 v5 m _ hf h
    · rw [if_neg c] at h
      refine jem (p := v5 = (-1 : Int32)) (fun c => ?_) (fun c => ?_)
      · rw [if_pos c] at h
        exact hk64 v5 m _ hf h
      · rw [if_neg c] at h
        obtain ⟨x3, ex3, g, h⟩ := jld_some h
        obtain ⟨x4, m5, zm5, h⟩ := jbd_some h
        replace hf := jfr_tr hf (jfr_sub (W := W_L_firstThatKnew) rfl (fr_L_firstThatKnew zm5))
        exact ih x4 (v6 + (1 : Int32)) m5 _ hf h
theorem fr_L_onShortestWay {v1 : Int32} {v2 : Int32} {v3 : Int32} {m : jMem} {r : (Int32 × jMem)} (h : f_L_onShortestWay v1 v2 v3 m = some r) : jfr W_L_onShortestWay m r.2 := by
  unfold f_L_onShortestWay at h
  have hf : jfr W_L_onShortestWay m m := jfr_rf
  obtain ⟨x1, m2, zm2, h⟩ := jbd_some h
  replace hf := jfr_tr hf (jfr_sub (W := W_L_ringsRound) rfl (fr_L_ringsRound zm2))
  refine jem (p := x1 = (-1 : Int32)) (fun c => ?_) (fun c => ?_)
  · rw [if_pos c] at h
    cases h
    exact hf
  · rw [if_neg c] at h
    refine jem (p := v3 ≤ x1) (fun c => ?_) (fun c => ?_)
    · rw [if_pos c] at h
      refine fr_lp_L_onShortestWay_28 v3 x1 _ ?_ _ v1 (1 : Int32) m2 _ hf h
      intro w7 m6 r hf h
      cases h
      exact hf
    · rw [if_neg c] at h
      cases h
      exact hf

def W_L_numberFor : List (Nat × Nat) := []
theorem fr_L_numberFor {v1 : Int32} {v2 : Int32} {m : jMem} {r : (Int32 × jMem)} (h : f_L_numberFor v1 v2 m = some r) : jfr W_L_numberFor m r.2 := by
  unfold f_L_numberFor at h
  have hf : jfr W_L_numberFor m m := jfr_rf
  obtain ⟨x1, ex1, g, h⟩ := jld_some h
  obtain ⟨x2, m3, zm3, h⟩ := jbd_some h
  replace hf := jfr_tr hf (jfr_sub (W := W_C_bit) rfl (fr_C_bit zm3))
  obtain ⟨x4, ex4, g, h⟩ := jld_some h
  obtain ⟨x5, m6, zm6, h⟩ := jbd_some h
  replace hf := jfr_tr hf (jfr_sub (W := W_JI_bitCount) rfl (fr_JI_bitCount zm6))
  cases h
  exact hf

def W_L_numberOfNumber : List (Nat × Nat) := []
theorem fr_lp_L_numberOfNumber_26 {m0 : jMem} (v1 : Int32) (v2 : Int32) (v5 : Int32) (k62 : Int32 → jMem → Option (Int32 × jMem))
    (hk62 : ∀ (v4 : Int32) (m : jMem) (r : (Int32 × jMem)), jfr W_L_numberOfNumber m0 m → k62 v4 m = some r → jfr W_L_numberOfNumber m0 r.2) : ∀ (n : Nat) (v4 : Int32) (v6 : Int32) (m : jMem) (r : (Int32 × jMem)), jfr W_L_numberOfNumber m0 m → lp_L_numberOfNumber_26 v1 v2 v5 k62 n v4 v6 m = some r → jfr W_L_numberOfNumber m0 r.2 := by
  intro n
  induction n with
  | zero => intro v4 v6 m r hf h; unfold lp_L_numberOfNumber_26 at h; cases h
  | succ n ih =>
    intro v4 v6 m r hf h
    unfold lp_L_numberOfNumber_26 at h
    refine jem (p := v1 < v6) (fun c => ?_) (fun c => ?_)
    · rw [if_pos c] at h
      exact hk62 v4 m _ hf h
    · rw [if_neg c] at h
      obtain ⟨x5, m6, zm6, h⟩ := jbd_some h
      replace hf := jfr_tr hf (jfr_sub (W := W_C_isIn) rfl (fr_C_isIn zm6))
      refine jem (p := x5 = 0) (fun c => ?_) (fun c => ?_)
      · rw [if_pos c] at h
        exact ih v4 (v6 + (1 : Int32)) m6 _ hf h
      · rw [if_neg c] at h
        obtain ⟨x7, m8, zm8, h⟩ := jbd_some h
        replace hf := jfr_tr hf (jfr_sub (W := W_L_numberFor) rfl (fr_L_numberFor zm8))
        exact ih (jmax v4 x7) (v6 + (1 : Int32)) m8 _ hf h
theorem fr_L_numberOfNumber {v1 : Int32} {v2 : Int32} {v3 : Int32} {m : jMem} {r : (Int32 × jMem)} (h : f_L_numberOfNumber v1 v2 v3 m = some r) : jfr W_L_numberOfNumber m r.2 := by
  unfold f_L_numberOfNumber at h
  have hf : jfr W_L_numberOfNumber m m := jfr_rf
  obtain ⟨x1, ex1, g, h⟩ := jld_some h
  obtain ⟨x2, m3, zm3, h⟩ := jbd_some h
  replace hf := jfr_tr hf (jfr_sub (W := W_C_bit) rfl (fr_C_bit zm3))
  obtain ⟨x4, ex4, g, h⟩ := jld_some h
  refine fr_lp_L_numberOfNumber_26 v1 v2 ((x1 ||| x2) &&& x4) _ ?_ _ (0 : Int32) (0 : Int32) m3 _ hf h
  intro w10 m9 r hf h
  cases h
  exact hf

def W_L_isTold : List (Nat × Nat) := []
theorem fr_L_isTold {v1 : Int32} {v2 : Int32} {v3 : Int32} {m : jMem} {r : (Int32 × jMem)} (h : f_L_isTold v1 v2 v3 m = some r) : jfr W_L_isTold m r.2 := by
  unfold f_L_isTold at h
  have hf : jfr W_L_isTold m m := jfr_rf
  by_cases c0 : v3 = (0 : Int32)
  · rw [if_pos c0] at h
    obtain ⟨x12, ex12, g, h⟩ := jld_some h
    obtain ⟨x13, m14, zm14, h⟩ := jbd_some h
    replace hf := jfr_tr hf (jfr_sub (W := W_C_isIn) rfl (fr_C_isIn zm14))
    obtain ⟨g, h⟩ := jgd_some h
    cases h
    exact hf
  · rw [if_neg c0] at h
    by_cases c1 : v3 = (1 : Int32)
    · rw [if_pos c1] at h
      obtain ⟨x10, ex10, g, h⟩ := jld_some h
      obtain ⟨x11, ex11, g, h⟩ := jld_some h
      refine jem (p := x11 ≤ x10) (fun c => ?_) (fun c => ?_)
      · rw [if_pos c] at h
        cases h
        exact hf
      · rw [if_neg c] at h
        cases h
        exact hf
    · rw [if_neg c1] at h
      by_cases c2 : v3 = (2 : Int32)
      · rw [if_pos c2] at h
        obtain ⟨x4, ex4, g, h⟩ := jld_some h
        obtain ⟨x5, m6, zm6, h⟩ := jbd_some h
        replace hf := jfr_tr hf (jfr_sub (W := W_L_numberFor) rfl (fr_L_numberFor zm6))
        obtain ⟨x7, ex7, g, h⟩ := jld_some h
        obtain ⟨x8, m9, zm9, h⟩ := jbd_some h
        replace hf := jfr_tr hf (jfr_sub (W := W_L_numberFor) rfl (fr_L_numberFor zm9))
        refine jem (p := x5 < x8) (fun c => ?_) (fun c => ?_)
        · rw [if_pos c] at h
          cases h
          exact hf
        · rw [if_neg c] at h
          cases h
          exact hf
      · rw [if_neg c2] at h
        obtain ⟨x1, ex1, g, h⟩ := jld_some h
        obtain ⟨x2, m3, zm3, h⟩ := jbd_some h
        replace hf := jfr_tr hf (jfr_sub (W := W_C_isIn) rfl (fr_C_isIn zm3))
        obtain ⟨g, h⟩ := jgd_some h
        cases h
        exact hf

def W_L_toldWrongly : List (Nat × Nat) := []
theorem fr_lp_L_toldWrongly_15 {m0 : jMem} (v1 : Int32) (v3 : Int32) (k61 : Int32 → jMem → Option (Int32 × jMem))
    (hk61 : ∀ (v2 : Int32) (m : jMem) (r : (Int32 × jMem)), jfr W_L_toldWrongly m0 m → k61 v2 m = some r → jfr W_L_toldWrongly m0 r.2) : ∀ (n : Nat) (v2 : Int32) (v4 : Int32) (m : jMem) (r : (Int32 × jMem)), jfr W_L_toldWrongly m0 m → lp_L_toldWrongly_15 v1 v3 k61 n v2 v4 m = some r → jfr W_L_toldWrongly m0 r.2 := by
  intro n
  induction n with
  | zero => intro v2 v4 m r hf h; unfold lp_L_toldWrongly_15 at h; cases h
  | succ n ih =>
    intro v2 v4 m r hf h
    unfold lp_L_toldWrongly_15 at h
    refine jem (p := (m 29 15) ≤ v4) (fun c => ?_) (fun c => ?_)
    · rw [if_pos c] at h
      exact hk61 v2 m _ hf h
    · rw [if_neg c] at h
      refine jem (p := v3 = v4) (fun c => ?_) (fun c => ?_)
      · rw [if_pos c] at h
        exact ih v2 (v4 + (1 : Int32)) m _ hf h
      · rw [if_neg c] at h
        obtain ⟨x1, m2, zm2, h⟩ := jbd_some h
        replace hf := jfr_tr hf (jfr_sub (W := W_L_isTold) rfl (fr_L_isTold zm2))
        obtain ⟨x3, ex3, g, h⟩ := jld_some h
        obtain ⟨x4, m5, zm5, h⟩ := jbd_some h
        replace hf := jfr_tr hf (jfr_sub (W := W_C_isIn) rfl (fr_C_isIn zm5))
        refine jem (p := x1 = x4) (fun c => ?_) (fun c => ?_)
        · rw [if_pos c] at h
          exact ih v2 (v4 + (1 : Int32)) m5 _ hf h
        · rw [if_neg c] at h
          exact ih (v2 + (1 : Int32)) (v4 + (1 : Int32)) m5 _ hf h
theorem fr_lp_L_toldWrongly_4 {m0 : jMem} (v1 : Int32) (k67 : Int32 → jMem → Option (Int32 × jMem))
    (hk67 : ∀ (v2 : Int32) (m : jMem) (r : (Int32 × jMem)), jfr W_L_toldWrongly m0 m → k67 v2 m = some r → jfr W_L_toldWrongly m0 r.2) : ∀ (n : Nat) (v2 : Int32) (v3 : Int32) (m : jMem) (r : (Int32 × jMem)), jfr W_L_toldWrongly m0 m → lp_L_toldWrongly_4 v1 k67 n v2 v3 m = some r → jfr W_L_toldWrongly m0 r.2 := by
  intro n
  induction n with
  | zero => intro v2 v3 m r hf h; unfold lp_L_toldWrongly_4 at h; cases h
  | succ n ih =>
    intro v2 v3 m r hf h
    unfold lp_L_toldWrongly_4 at h
    refine jem (p := (m 29 15) ≤ v3) (fun c => ?_) (fun c => ?_)
    · rw [if_pos c] at h
      exact hk67 v2 m _ hf h
    · rw [if_neg c] at h
      refine fr_lp_L_toldWrongly_15 v1 v3 _ ?_ _ v2 (0 : Int32) m _ hf h
      intro w7 m6 r hf h
      exact ih w7 (v3 + (1 : Int32)) m6 _ hf h
theorem fr_L_toldWrongly {v1 : Int32} {m : jMem} {r : (Int32 × jMem)} (h : f_L_toldWrongly v1 m = some r) : jfr W_L_toldWrongly m r.2 := by
  unfold f_L_toldWrongly at h
  have hf : jfr W_L_toldWrongly m m := jfr_rf
  refine fr_lp_L_toldWrongly_4 v1 _ ?_ _ (0 : Int32) (0 : Int32) m _ hf h
  intro w9 m8 r hf h
  cases h
  exact hf

def W_L_isSet : List (Nat × Nat) := []
theorem fr_L_isSet {v1 : Int32} {m : jMem} {r : (Int32 × jMem)} (h : f_L_isSet v1 m = some r) : jfr W_L_isSet m r.2 := by
  unfold f_L_isSet at h
  have hf : jfr W_L_isSet m m := jfr_rf
  refine jem (p := v1 < 0) (fun c => ?_) (fun c => ?_)
  · rw [if_pos c] at h
    cases h
    exact hf
  · rw [if_neg c] at h
    obtain ⟨x1, m2, zm2, h⟩ := jbd_some h
    replace hf := jfr_tr hf (jfr_sub (W := W_C_bit) rfl (fr_C_bit zm2))
    refine jem_ne (p := (v1 &&& ((x1 - (1 : Int32)) ^^^ (-1 : Int32))) = 0) (fun c => ?_) (fun c => ?_)
    · rw [if_neg c] at h
      cases h
      exact hf
    · rw [if_pos c] at h
      cases h
      exact hf

def W_L_isLeft : List (Nat × Nat) := []
theorem fr_L_isLeft {v1 : Int32} {m : jMem} {r : (Int32 × jMem)} (h : f_L_isLeft v1 m = some r) : jfr W_L_isLeft m r.2 := by
  unfold f_L_isLeft at h
  have hf : jfr W_L_isLeft m m := jfr_rf
  obtain ⟨x1, m2, zm2, h⟩ := jbd_some h
  replace hf := jfr_tr hf (jfr_sub (W := W_L_isLetter) rfl (fr_L_isLetter zm2))
  refine jem (p := x1 = 0) (fun c => ?_) (fun c => ?_)
  · rw [if_pos c] at h
    cases h
    exact hf
  · rw [if_neg c] at h
    obtain ⟨x3, m4, zm4, h⟩ := jbd_some h
    replace hf := jfr_tr hf (jfr_sub (W := W_C_isIn) rfl (fr_C_isIn zm4))
    refine jem (p := x3 = 0) (fun c => ?_) (fun c => ?_)
    · rw [if_pos c] at h
      cases h
      exact hf
    · rw [if_neg c] at h
      cases h
      exact hf

def W_L_citesThroughLeft : List (Nat × Nat) := []
theorem fr_lp_L_citesThroughLeft_8 {m0 : jMem} (v2 : Int32) (k43 : Int32 → jMem → Option (Int32 × jMem))
    (hk43 : ∀ (v3 : Int32) (m : jMem) (r : (Int32 × jMem)), jfr W_L_citesThroughLeft m0 m → k43 v3 m = some r → jfr W_L_citesThroughLeft m0 r.2) : ∀ (n : Nat) (v3 : Int32) (v4 : Int32) (m : jMem) (r : (Int32 × jMem)), jfr W_L_citesThroughLeft m0 m → lp_L_citesThroughLeft_8 v2 k43 n v3 v4 m = some r → jfr W_L_citesThroughLeft m0 r.2 := by
  intro n
  induction n with
  | zero => intro v3 v4 m r hf h; unfold lp_L_citesThroughLeft_8 at h; cases h
  | succ n ih =>
    intro v3 v4 m r hf h
    unfold lp_L_citesThroughLeft_8 at h
    refine jem (p := v4 ≤ v2) (fun c => ?_) (fun c => ?_)
    · rw [if_pos c] at h
      exact hk43 v3 m _ hf h
    · rw [if_neg c] at h
      obtain ⟨x3, m4, zm4, h⟩ := jbd_some h
      replace hf := jfr_tr hf (jfr_sub (W := W_C_isIn) rfl (fr_C_isIn zm4))
      refine jem (p := x3 = 0) (fun c => ?_) (fun c => ?_)
      · rw [if_pos c] at h
        exact ih v3 (v4 + (-1 : Int32)) m4 _ hf h
      · rw [if_neg c] at h
        obtain ⟨x5, m6, zm6, h⟩ := jbd_some h
        replace hf := jfr_tr hf (jfr_sub (W := W_L_answered) rfl (fr_L_answered zm6))
        exact ih (v3 ||| (x5 &&& (m6 29 16))) (v4 + (-1 : Int32)) m6 _ hf h
theorem fr_L_citesThroughLeft {v1 : Int32} {v2 : Int32} {m : jMem} {r : (Int32 × jMem)} (h : f_L_citesThroughLeft v1 v2 m = some r) : jfr W_L_citesThroughLeft m r.2 := by
  unfold f_L_citesThroughLeft at h
  have hf : jfr W_L_citesThroughLeft m m := jfr_rf
  obtain ⟨x1, m2, zm2, h⟩ := jbd_some h
  replace hf := jfr_tr hf (jfr_sub (W := W_C_bit) rfl (fr_C_bit zm2))
  refine fr_lp_L_citesThroughLeft_8 v2 _ ?_ _ x1 v1 m2 _ hf h
  intro w8 m7 r hf h
  obtain ⟨x9, m10, zm10, h⟩ := jbd_some h
  replace hf := jfr_tr hf (jfr_sub (W := W_C_isIn) rfl (fr_C_isIn zm10))
  obtain ⟨g, h⟩ := jgd_some h
  cases h
  exact hf

def W_L_ofWriter : List (Nat × Nat) := []
theorem fr_lp_L_ofWriter_5 {m0 : jMem} (v1 : Int32) (v2 : Int32) (k33 : Int32 → jMem → Option (Int32 × jMem)) (k42 : jMem → Option (Int32 × jMem))
    (hk33 : ∀ (v4 : Int32) (m : jMem) (r : (Int32 × jMem)), jfr W_L_ofWriter m0 m → k33 v4 m = some r → jfr W_L_ofWriter m0 r.2)
    (hk42 : ∀ (m : jMem) (r : (Int32 × jMem)), jfr W_L_ofWriter m0 m → k42 m = some r → jfr W_L_ofWriter m0 r.2) : ∀ (n : Nat) (v3 : Int32) (v4 : Int32) (m : jMem) (r : (Int32 × jMem)), jfr W_L_ofWriter m0 m → lp_L_ofWriter_5 v1 v2 k33 k42 n v3 v4 m = some r → jfr W_L_ofWriter m0 r.2 := by
  intro n
  induction n with
  | zero => intro v3 v4 m r hf h; unfold lp_L_ofWriter_5 at h; cases h
  | succ n ih =>
    intro v3 v4 m r hf h
    unfold lp_L_ofWriter_5 at h
    refine jem (p := (m 29 15) ≤ v4) (fun c => ?_) (fun c => ?_)
    · rw [if_pos c] at h
      exact hk42  m _ hf h
    · rw [if_neg c] at h
      obtain ⟨x1, ex1, g, h⟩ := jld_some h
      refine jem_ne (p := x1 = v1) (fun c => ?_) (fun c => ?_)
      · rw [if_neg c] at h
        exact ih v3 (v4 + (1 : Int32)) m _ hf h
      · rw [if_pos c] at h
        refine jem_ne (p := (v3 + (1 : Int32)) = v2) (fun c => ?_) (fun c => ?_)
        · rw [if_neg c] at h
          exact ih (v3 + (1 : Int32)) (v4 + (1 : Int32)) m _ hf h
        · rw [if_pos c] at h
          exact hk33 v4 m _ hf h
theorem fr_L_ofWriter {v1 : Int32} {v2 : Int32} {m : jMem} {r : (Int32 × jMem)} (h : f_L_ofWriter v1 v2 m = some r) : jfr W_L_ofWriter m r.2 := by
  unfold f_L_ofWriter at h
  have hf : jfr W_L_ofWriter m m := jfr_rf
  refine fr_lp_L_ofWriter_5 v1 v2 _ _ ?_ ?_ _ (0 : Int32) (0 : Int32) m _ hf h
  · intro w3 m2 r hf h
    cases h
    exact hf
  · intro m4 r hf h
    cases h
    exact hf

def W_L_writtenBy : List (Nat × Nat) := []
theorem fr_lp_L_writtenBy_5 {m0 : jMem} (v1 : Int32) (v2 : Int32) (k45 : Int32 → jMem → Option (Int32 × jMem))
    (hk45 : ∀ (v3 : Int32) (m : jMem) (r : (Int32 × jMem)), jfr W_L_writtenBy m0 m → k45 v3 m = some r → jfr W_L_writtenBy m0 r.2) : ∀ (n : Nat) (v3 : Int32) (v4 : Int32) (m : jMem) (r : (Int32 × jMem)), jfr W_L_writtenBy m0 m → lp_L_writtenBy_5 v1 v2 k45 n v3 v4 m = some r → jfr W_L_writtenBy m0 r.2 := by
  intro n
  induction n with
  | zero => intro v3 v4 m r hf h; unfold lp_L_writtenBy_5 at h; cases h
  | succ n ih =>
    intro v3 v4 m r hf h
    unfold lp_L_writtenBy_5 at h
    refine jem (p := (m 29 15) ≤ v4) (fun c => ?_) (fun c => ?_)
    · rw [if_pos c] at h
      exact hk45 v3 m _ hf h
    · rw [if_neg c] at h
      obtain ⟨x1, ex1, g, h⟩ := jld_some h
      refine jem_ne (p := x1 = v1) (fun c => ?_) (fun c => ?_)
      · rw [if_neg c] at h
        exact ih v3 (v4 + (1 : Int32)) m _ hf h
      · rw [if_pos c] at h
        obtain ⟨x2, ex2, g, h⟩ := jld_some h
        refine jem (p := v2 < x2) (fun c => ?_) (fun c => ?_)
        · rw [if_pos c] at h
          exact ih v3 (v4 + (1 : Int32)) m _ hf h
        · rw [if_neg c] at h
          exact ih (v3 + (1 : Int32)) (v4 + (1 : Int32)) m _ hf h
theorem fr_L_writtenBy {v1 : Int32} {v2 : Int32} {m : jMem} {r : (Int32 × jMem)} (h : f_L_writtenBy v1 v2 m = some r) : jfr W_L_writtenBy m r.2 := by
  unfold f_L_writtenBy at h
  have hf : jfr W_L_writtenBy m m := jfr_rf
  refine fr_lp_L_writtenBy_5 v1 v2 _ ?_ _ (0 : Int32) (0 : Int32) m _ hf h
  intro w4 m3 r hf h
  cases h
  exact hf

def W_L_hanging : List (Nat × Nat) := []
theorem fr_lp_L_hanging_5 {m0 : jMem} (v1 : Int32) (v2 : Int32) (k56 : Int32 → jMem → Option (Int32 × jMem))
    (hk56 : ∀ (v3 : Int32) (m : jMem) (r : (Int32 × jMem)), jfr W_L_hanging m0 m → k56 v3 m = some r → jfr W_L_hanging m0 r.2) : ∀ (n : Nat) (v3 : Int32) (v4 : Int32) (m : jMem) (r : (Int32 × jMem)), jfr W_L_hanging m0 m → lp_L_hanging_5 v1 v2 k56 n v3 v4 m = some r → jfr W_L_hanging m0 r.2 := by
  intro n
  induction n with
  | zero => intro v3 v4 m r hf h; unfold lp_L_hanging_5 at h; cases h
  | succ n ih =>
    intro v3 v4 m r hf h
    unfold lp_L_hanging_5 at h
    refine jem (p := (m 29 15) ≤ v4) (fun c => ?_) (fun c => ?_)
    · rw [if_pos c] at h
      exact hk56 v3 m _ hf h
    · rw [if_neg c] at h
      refine jem (p := v2 = 0) (fun c => ?_) (fun c => ?_)
      · rw [if_pos c] at h
        obtain ⟨x1, ex1, g, h⟩ := jld_some h
        obtain ⟨x2, m3, zm3, h⟩ := jbd_some h
        replace hf := jfr_tr hf (jfr_sub (W := W_C_isIn) rfl (fr_C_isIn zm3))
        refine jem (p := x2 = 0) (fun c => ?_) (fun c => ?_)
        · rw [if_pos c] at h
          exact ih v3 (v4 + (1 : Int32)) m3 _ hf h
        · rw [if_neg c] at h
          obtain ⟨x4, m5, zm5, h⟩ := jbd_some h
          replace hf := jfr_tr hf (jfr_sub (W := W_C_bit) rfl (fr_C_bit zm5))
          exact ih (v3 ||| x4) (v4 + (1 : Int32)) m5 _ hf h
      · rw [if_neg c] at h
        obtain ⟨x6, ex6, g, h⟩ := jld_some h
        obtain ⟨x7, m8, zm8, h⟩ := jbd_some h
        replace hf := jfr_tr hf (jfr_sub (W := W_C_isIn) rfl (fr_C_isIn zm8))
        refine jem (p := x7 = 0) (fun c => ?_) (fun c => ?_)
        · rw [if_pos c] at h
          exact ih v3 (v4 + (1 : Int32)) m8 _ hf h
        · rw [if_neg c] at h
          obtain ⟨x9, m10, zm10, h⟩ := jbd_some h
          replace hf := jfr_tr hf (jfr_sub (W := W_C_bit) rfl (fr_C_bit zm10))
          exact ih (v3 ||| x9) (v4 + (1 : Int32)) m10 _ hf h
theorem fr_L_hanging {v1 : Int32} {v2 : Int32} {m : jMem} {r : (Int32 × jMem)} (h : f_L_hanging v1 v2 m = some r) : jfr W_L_hanging m r.2 := by
  unfold f_L_hanging at h
  have hf : jfr W_L_hanging m m := jfr_rf
  refine fr_lp_L_hanging_5 v1 v2 _ ?_ _ (0 : Int32) (0 : Int32) m _ hf h
  intro w12 m11 r hf h
  cases h
  exact hf

def W_L_isTakenBack : List (Nat × Nat) := []
theorem fr_lp_L_isTakenBack_2 {m0 : jMem} (v1 : Int32) (k30 : jMem → Option (Int32 × jMem)) (k38 : jMem → Option (Int32 × jMem))
    (hk30 : ∀ (m : jMem) (r : (Int32 × jMem)), jfr W_L_isTakenBack m0 m → k30 m = some r → jfr W_L_isTakenBack m0 r.2)
    (hk38 : ∀ (m : jMem) (r : (Int32 × jMem)), jfr W_L_isTakenBack m0 m → k38 m = some r → jfr W_L_isTakenBack m0 r.2) : ∀ (n : Nat) (v2 : Int32) (m : jMem) (r : (Int32 × jMem)), jfr W_L_isTakenBack m0 m → lp_L_isTakenBack_2 v1 k30 k38 n v2 m = some r → jfr W_L_isTakenBack m0 r.2 := by
  intro n
  induction n with
  | zero => intro v2 m r hf h; unfold lp_L_isTakenBack_2 at h; cases h
  | succ n ih =>
    intro v2 m r hf h
    unfold lp_L_isTakenBack_2 at h
    refine jem (p := (m 29 15) ≤ v2) (fun c => ?_) (fun c => ?_)
    · rw [if_pos c] at h
      exact hk38  m _ hf h
    · rw [if_neg c] at h
      obtain ⟨x1, ex1, g, h⟩ := jld_some h
      refine jem_ne (p := x1 = (2 : Int32)) (fun c => ?_) (fun c => ?_)
      · rw [if_neg c] at h
        exact ih (v2 + (1 : Int32)) m _ hf h
      · rw [if_pos c] at h
        obtain ⟨x2, ex2, g, h⟩ := jld_some h
        refine jem_ne (p := x2 = v1) (fun c => ?_) (fun c => ?_)
        · rw [if_neg c] at h
          exact ih (v2 + (1 : Int32)) m _ hf h
        · rw [if_pos c] at h
          exact hk30  m _ hf h
theorem fr_L_isTakenBack {v1 : Int32} {m : jMem} {r : (Int32 × jMem)} (h : f_L_isTakenBack v1 m = some r) : jfr W_L_isTakenBack m r.2 := by
  unfold f_L_isTakenBack at h
  have hf : jfr W_L_isTakenBack m m := jfr_rf
  refine fr_lp_L_isTakenBack_2 v1 _ _ ?_ ?_ _ (0 : Int32) m _ hf h
  · intro m3 r hf h
    cases h
    exact hf
  · intro m4 r hf h
    cases h
    exact hf
