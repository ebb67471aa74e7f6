def W_P_shortenBy : List (Nat × Nat) := [(54, 0), (55, 0), (56, 0), (57, 0), (58, 0), (59, 0)]
theorem fr_lp_P_shortenBy_10 {m0 : jMem} (v1 : Int32) (v2 : Int32) (k58 : jMem → Option (Unit × jMem))
    (hk58 : ∀ (m : jMem) (r : (Unit × jMem)), jfr W_P_shortenBy m0 m → k58 m = some r → jfr W_P_shortenBy m0 r.2) : ∀ (n : Nat) (v3 : Int32) (m : jMem) (r : (Unit × jMem)), jfr W_P_shortenBy m0 m → lp_P_shortenBy_10 v1 v2 k58 n v3 m = some r → jfr W_P_shortenBy m0 r.2 := by
  intro n
  induction n with
  | zero => intro v3 m r hf h; unfold lp_P_shortenBy_10 at h; cases h
  | succ n ih =>
    intro v3 m r hf h
    unfold lp_P_shortenBy_10 at h
    refine jem (p := (6 : Int32) ≤ v3) (fun c => ?_) (fun c => ?_)
    · rw [if_pos c] at h
      exact hk58  m _ hf h
    · rw [if_neg c] at h
      obtain ⟨q1, eq1, gq1, h⟩ := jl3_some h
      obtain ⟨q2, eq2, gq2, h⟩ := jl3_some h
      obtain ⟨x3, ex3, g, h⟩ := jld_some h
      obtain ⟨q4, eq4, gq4, h⟩ := jl3_some h
      obtain ⟨x5, ex5, g, h⟩ := jld_some h
      obtain ⟨q6, eq6, gq6, h⟩ := jl3_some h
      obtain ⟨x7, ex7, g, h⟩ := jld_some h
      obtain ⟨m8, hm8, g, h⟩ := jst_some h
      replace hf := jfr_tr hf (jfr_ua hm8 (jrows_53 W_P_shortenBy (by decide) eq1 gq1))
      exact ih (v3 + (1 : Int32)) m8 _ hf h
theorem fr_lp_P_shortenBy_2 {m0 : jMem} (v1 : Int32) (k64 : jMem → Option (Unit × jMem))
    (hk64 : ∀ (m : jMem) (r : (Unit × jMem)), jfr W_P_shortenBy m0 m → k64 m = some r → jfr W_P_shortenBy m0 r.2) : ∀ (n : Nat) (v2 : Int32) (m : jMem) (r : (Unit × jMem)), jfr W_P_shortenBy m0 m → lp_P_shortenBy_2 v1 k64 n v2 m = some r → jfr W_P_shortenBy m0 r.2 := by
  intro n
  induction n with
  | zero => intro v2 m r hf h; unfold lp_P_shortenBy_2 at h; cases h
  | succ n ih =>
    intro v2 m r hf h
    unfold lp_P_shortenBy_2 at h
    refine jem (p := (6 : Int32) ≤ v2) (fun c => ?_) (fun c => ?_)
    · rw [if_pos c] at h
      exact hk64  m _ hf h
    · rw [if_neg c] at h
      refine fr_lp_P_shortenBy_10 v1 v2 _ ?_ _ (0 : Int32) m _ hf h
      intro m9 r hf h
      exact ih (v2 + (1 : Int32)) m9 _ hf h
theorem fr_P_shortenBy {v1 : Int32} {m : jMem} {r : (Unit × jMem)} (h : f_P_shortenBy v1 m = some r) : jfr W_P_shortenBy m r.2 := by
  unfold f_P_shortenBy at h
  have hf : jfr W_P_shortenBy m m := jfr_rf
  refine fr_lp_P_shortenBy_2 v1 _ ?_ _ (0 : Int32) m _ hf h
  intro m10 r hf h
  cases h
  exact hf

def W_P_setWay : List (Nat × Nat) := [(47, 0), (48, 0), (49, 0), (50, 0), (51, 0), (52, 0), (54, 0), (55, 0), (56, 0), (57, 0), (58, 0), (59, 0)]
theorem fr_lp_P_setWay_21 {m0 : jMem} (k55 : jMem → Option (Unit × jMem))
    (hk55 : ∀ (m : jMem) (r : (Unit × jMem)), jfr W_P_setWay m0 m → k55 m = some r → jfr W_P_setWay m0 r.2) : ∀ (n : Nat) (v4 : Int32) (m : jMem) (r : (Unit × jMem)), jfr W_P_setWay m0 m → lp_P_setWay_21 k55 n v4 m = some r → jfr W_P_setWay m0 r.2 := by
  intro n
  induction n with
  | zero => intro v4 m r hf h; unfold lp_P_setWay_21 at h; cases h
  | succ n ih =>
    intro v4 m r hf h
    unfold lp_P_setWay_21 at h
    refine jem (p := (6 : Int32) ≤ v4) (fun c => ?_) (fun c => ?_)
    · rw [if_pos c] at h
      exact hk55  m _ hf h
    · rw [if_neg c] at h
      obtain ⟨q5, eq5, gq5, h⟩ := jl3_some h
      obtain ⟨q6, eq6, gq6, h⟩ := jl3_some h
      obtain ⟨m7, hm7, g, h⟩ := jcp_some h
      replace hf := jfr_tr hf (jfr_cp hm7 (jrows_53 W_P_setWay (by decide) eq6 gq6))
      exact ih (v4 + (1 : Int32)) m7 _ hf h
theorem fr_lp_P_setWay_58 {m0 : jMem} (k77 : jMem → Option (Unit × jMem))
    (hk77 : ∀ (m : jMem) (r : (Unit × jMem)), jfr W_P_setWay m0 m → k77 m = some r → jfr W_P_setWay m0 r.2) : ∀ (n : Nat) (v4 : Int32) (m : jMem) (r : (Unit × jMem)), jfr W_P_setWay m0 m → lp_P_setWay_58 k77 n v4 m = some r → jfr W_P_setWay m0 r.2 := by
  intro n
  induction n with
  | zero => intro v4 m r hf h; unfold lp_P_setWay_58 at h; cases h
  | succ n ih =>
    intro v4 m r hf h
    unfold lp_P_setWay_58 at h
    refine jem (p := (6 : Int32) ≤ v4) (fun c => ?_) (fun c => ?_)
    · rw [if_pos c] at h
      exact hk77  m _ hf h
    · rw [if_neg c] at h
      obtain ⟨u9, m10, zm10, h⟩ := jbd_some h
      replace hf := jfr_tr hf (jfr_sub (W := W_P_shortenBy) rfl (fr_P_shortenBy zm10))
      exact ih (v4 + (1 : Int32)) m10 _ hf h
theorem fr_P_setWay {v1 : Int32} {v2 : Int32} {v3 : Int32} {m : jMem} {r : (Unit × jMem)} (h : f_P_setWay v1 v2 v3 m = some r) : jfr W_P_setWay m r.2 := by
  unfold f_P_setWay at h
  have hf : jfr W_P_setWay m m := jfr_rf
  obtain ⟨q1, eq1, gq1, h⟩ := jl3_some h
  obtain ⟨m2, hm2, g, h⟩ := jst_some h
  replace hf := jfr_tr hf (jfr_ua hm2 (jrows_46 W_P_setWay (by decide) eq1 gq1))
  obtain ⟨q3, eq3, gq3, h⟩ := jl3_some h
  obtain ⟨m4, hm4, g, h⟩ := jst_some h
  replace hf := jfr_tr hf (jfr_ua hm4 (jrows_46 W_P_setWay (by decide) eq3 gq3))
  refine fr_lp_P_setWay_21 _ ?_ _ (0 : Int32) m4 _ hf h
  intro m8 r hf h
  refine fr_lp_P_setWay_58 _ ?_ _ (0 : Int32) m8 _ hf h
  intro m11 r hf h
  cases h
  exact hf

def W_P_throughSplit : List (Nat × Nat) := []
theorem fr_P_throughSplit {v1 : Int32} {v2 : Int32} {v3 : Int32} {m : jMem} {r : (Int32 × jMem)} (h : f_P_throughSplit v1 v2 v3 m = some r) : jfr W_P_throughSplit m r.2 := by
  unfold f_P_throughSplit at h
  have hf : jfr W_P_throughSplit m m := jfr_rf
  obtain ⟨x1, m2, zm2, h⟩ := jbd_some h
  replace hf := jfr_tr hf (jfr_sub (W := W_C_isIn) rfl (fr_C_isIn zm2))
  obtain ⟨x3, m4, zm4, h⟩ := jbd_some h
  replace hf := jfr_tr hf (jfr_sub (W := W_C_isIn) rfl (fr_C_isIn zm4))
  refine jem (p := x1 = x3) (fun c => ?_) (fun c => ?_)
  · rw [if_pos c] at h
    refine jem (p := (0 : Int32) = 0) (fun c => ?_) (fun c => ?_)
    · rw [if_pos c] at h
      cases h
      exact hf
    · rw [if_neg c] at h
      refine jem (p := v3 < (m4 45 3)) (fun c => ?_) (fun c => ?_)
      · rw [if_pos c] at h
        cases h
        exact hf
      · rw [if_neg c] at h
        refine jem (p := (m4 45 4) < v3) (fun c => ?_) (fun c => ?_)
        · rw [if_pos c] at h
          cases h
          exact hf
        · rw [if_neg c] at h
          cases h
          exact hf
  · rw [if_neg c] at h
    refine jem (p := (1 : Int32) = 0) (fun c => ?_) (fun c => ?_)
    · rw [if_pos c] at h
      cases h
      exact hf
    · rw [if_neg c] at h
      refine jem (p := v3 < (m4 45 3)) (fun c => ?_) (fun c => ?_)
      · rw [if_pos c] at h
        cases h
        exact hf
      · rw [if_neg c] at h
        refine jem (p := (m4 45 4) < v3) (fun c => ?_) (fun c => ?_)
        · rw [if_pos c] at h
          cases h
          exact hf
        · rw [if_neg c] at h
          cases h
          exact hf

def W_P_send : List (Nat × Nat) := [(45, 11), (60, 0), (61, 0), (62, 0), (63, 0), (64, 0)]
theorem fr_P_send {v1 : Int32} {v2 : Int32} {v3 : Int32} {v4 : Int32} {m : jMem} {r : (Int32 × jMem)} (h : f_P_send v1 v2 v3 v4 m = some r) : jfr W_P_send m r.2 := by
  unfold f_P_send at h
  have hf : jfr W_P_send m m := jfr_rf
  refine jem (p := (150 : Int32) ≤ (m 45 10)) (fun c => ?_) (fun c => ?_)
  · rw [if_pos c] at h
    cases h
    exact hf
  · rw [if_neg c] at h
    obtain ⟨x1, m2, zm2, h⟩ := jbd_some h
    replace hf := jfr_tr hf (jfr_sub (W := W_C_isWriter) rfl (fr_C_isWriter zm2))
    refine jem (p := x1 = 0) (fun c => ?_) (fun c => ?_)
    · rw [if_pos c] at h
      cases h
      exact hf
    · rw [if_neg c] at h
      obtain ⟨x3, m4, zm4, h⟩ := jbd_some h
      replace hf := jfr_tr hf (jfr_sub (W := W_C_isWriter) rfl (fr_C_isWriter zm4))
      refine jem_ne (p := x3 = 0) (fun c => ?_) (fun c => ?_)
      · rw [if_neg c] at h
        obtain ⟨m5, hm5, g, h⟩ := jst_some h
        replace hf := jfr_tr hf (jfr_ua hm5 rfl)
        obtain ⟨m6, hm6, g, h⟩ := jst_some h
        replace hf := jfr_tr hf (jfr_ua hm6 rfl)
        obtain ⟨m7, hm7, g, h⟩ := jst_some h
        replace hf := jfr_tr hf (jfr_ua hm7 rfl)
        obtain ⟨q8, eq8, gq8, h⟩ := jl3_some h
        obtain ⟨x9, ex9, g, h⟩ := jld_some h
        obtain ⟨x10, m11, zm11, h⟩ := jbd_some h
        replace hf := jfr_tr hf (jfr_sub (W := W_P_throughSplit) rfl (fr_P_throughSplit zm11))
        obtain ⟨m12, hm12, g, h⟩ := jst_some h
        replace hf := jfr_tr hf (jfr_ua hm12 rfl)
        obtain ⟨m13, hm13, g, h⟩ := jst_some h
        replace hf := jfr_tr hf (jfr_ua hm13 rfl)
        obtain ⟨m14, hm14, h⟩ := jpu_some h
        replace hf := jfr_tr hf (jfr_up hm14 rfl)
        cases h
        exact hf
      · rw [if_pos c] at h
        cases h
        exact hf

def W_P_delay : List (Nat × Nat) := [(63, 0)]
theorem fr_P_delay {v1 : Int32} {v2 : Int32} {m : jMem} {r : (Int32 × jMem)} (h : f_P_delay v1 v2 m = some r) : jfr W_P_delay m r.2 := by
  unfold f_P_delay at h
  have hf : jfr W_P_delay m m := jfr_rf
  obtain ⟨x1, ex1, g, h⟩ := jld_some h
  refine jem (p := (x1 + v2) ≤ (999 : Int32)) (fun c => ?_) (fun c => ?_)
  · rw [if_pos c] at h
    obtain ⟨x2, ex2, g, h⟩ := jld_some h
    obtain ⟨x3, ex3, g, h⟩ := jld_some h
    obtain ⟨x4, ex4, g, h⟩ := jld_some h
    obtain ⟨x5, m6, zm6, h⟩ := jbd_some h
    replace hf := jfr_tr hf (jfr_sub (W := W_P_throughSplit) rfl (fr_P_throughSplit zm6))
    obtain ⟨m7, hm7, g, h⟩ := jst_some h
    replace hf := jfr_tr hf (jfr_ua hm7 rfl)
    obtain ⟨x8, ex8, g, h⟩ := jld_some h
    cases h
    exact hf
  · rw [if_neg c] at h
    cases h
    exact hf

def W_P_isCopy : List (Nat × Nat) := []
theorem fr_P_isCopy {v1 : Int32} {m : jMem} {r : (Int32 × jMem)} (h : f_P_isCopy v1 m = some r) : jfr W_P_isCopy m r.2 := by
  unfold f_P_isCopy at h
  have hf : jfr W_P_isCopy m m := jfr_rf
  refine jem (p := v1 < 0) (fun c => ?_) (fun c => ?_)
  · rw [if_pos c] at h
    cases h
    exact hf
  · rw [if_neg c] at h
    refine jem (p := (m 45 10) ≤ v1) (fun c => ?_) (fun c => ?_)
    · rw [if_pos c] at h
      cases h
      exact hf
    · rw [if_neg c] at h
      cases h
      exact hf

def W_P_isUnderWay : List (Nat × Nat) := []
theorem fr_P_isUnderWay {v1 : Int32} {m : jMem} {r : (Int32 × jMem)} (h : f_P_isUnderWay v1 m = some r) : jfr W_P_isUnderWay m r.2 := by
  unfold f_P_isUnderWay at h
  have hf : jfr W_P_isUnderWay m m := jfr_rf
  obtain ⟨x1, m2, zm2, h⟩ := jbd_some h
  replace hf := jfr_tr hf (jfr_sub (W := W_P_isCopy) rfl (fr_P_isCopy zm2))
  refine jem (p := x1 = 0) (fun c => ?_) (fun c => ?_)
  · rw [if_pos c] at h
    cases h
    exact hf
  · rw [if_neg c] at h
    obtain ⟨x3, ex3, g, h⟩ := jld_some h
    refine jem_ne (p := x3 = 0) (fun c => ?_) (fun c => ?_)
    · rw [if_neg c] at h
      cases h
      exact hf
    · rw [if_pos c] at h
      cases h
      exact hf

def W_P_setSplit : List (Nat × Nat) := [(45, 3), (45, 4), (45, 5)]
theorem fr_P_setSplit {v1 : Int32} {v2 : Int32} {v3 : Int32} {m : jMem} {r : (Unit × jMem)} (h : f_P_setSplit v1 v2 v3 m = some r) : jfr W_P_setSplit m r.2 := by
  unfold f_P_setSplit at h
  have hf : jfr W_P_setSplit m m := jfr_rf
  obtain ⟨m1, hm1, h⟩ := jpu_some h
  replace hf := jfr_tr hf (jfr_up hm1 rfl)
  obtain ⟨m2, hm2, h⟩ := jpu_some h
  replace hf := jfr_tr hf (jfr_up hm2 rfl)
  obtain ⟨m3, hm3, h⟩ := jpu_some h
  replace hf := jfr_tr hf (jfr_up hm3 rfl)
  cases h
  exact hf

def W_D_holds : List (Nat × Nat) := []
theorem fr_D_holds {v1 : Int32} {v2 : Int32} {m : jMem} {r : (Int32 × jMem)} (h : f_D_holds v1 v2 m = some r) : jfr W_D_holds m r.2 := by
  unfold f_D_holds at h
  have hf : jfr W_D_holds m m := jfr_rf
  obtain ⟨x1, m2, zm2, h⟩ := jbd_some h
  replace hf := jfr_tr hf (jfr_sub (W := W_C_isWriter) rfl (fr_C_isWriter zm2))
  refine jem (p := x1 = 0) (fun c => ?_) (fun c => ?_)
  · rw [if_pos c] at h
    cases h
    exact hf
  · rw [if_neg c] at h
    obtain ⟨x3, ex3, g, h⟩ := jld_some h
    obtain ⟨x4, m5, zm5, h⟩ := jbd_some h
    replace hf := jfr_tr hf (jfr_sub (W := W_C_isIn) rfl (fr_C_isIn zm5))
    refine jem (p := x4 = 0) (fun c => ?_) (fun c => ?_)
    · rw [if_pos c] at h
      cases h
      exact hf
    · rw [if_neg c] at h
      cases h
      exact hf

def W_D_put : List (Nat × Nat) := [(67, 0), (68, 0), (69, 0), (70, 0), (71, 0), (72, 0), (73, 0), (74, 0)]
theorem fr_D_put {v1 : Int32} {v2 : Int32} {m : jMem} {r : (Unit × jMem)} (h : f_D_put v1 v2 m = some r) : jfr W_D_put m r.2 := by
  unfold f_D_put at h
  have hf : jfr W_D_put m m := jfr_rf
  obtain ⟨x1, m2, zm2, h⟩ := jbd_some h
  replace hf := jfr_tr hf (jfr_sub (W := W_C_isWriter) rfl (fr_C_isWriter zm2))
  refine jem (p := x1 = 0) (fun c => ?_) (fun c => ?_)
  · rw [if_pos c] at h
    cases h
    exact hf
  · rw [if_neg c] at h
    obtain ⟨x3, ex3, g, h⟩ := jld_some h
    refine jem (p := x3 < (30 : Int32)) (fun c => ?_) (fun c => ?_)
    · rw [if_pos c] at h
      obtain ⟨q4, eq4, gq4, h⟩ := jl3_some h
      obtain ⟨x5, ex5, g, h⟩ := jld_some h
      obtain ⟨m6, hm6, g, h⟩ := jst_some h
      replace hf := jfr_tr hf (jfr_ua hm6 (jrows_66 W_D_put (by decide) eq4 gq4))
      obtain ⟨x7, ex7, g, h⟩ := jld_some h
      obtain ⟨m8, hm8, g, h⟩ := jst_some h
      replace hf := jfr_tr hf (jfr_ua hm8 rfl)
      obtain ⟨x9, ex9, g, h⟩ := jld_some h
      obtain ⟨x10, m11, zm11, h⟩ := jbd_some h
      replace hf := jfr_tr hf (jfr_sub (W := W_C_bit) rfl (fr_C_bit zm11))
      obtain ⟨m12, hm12, g, h⟩ := jst_some h
      replace hf := jfr_tr hf (jfr_ua hm12 rfl)
      cases h
      exact hf
    · rw [if_neg c] at h
      cases h
      exact hf

def W_D_letterAt : List (Nat × Nat) := []
theorem fr_D_letterAt {v1 : Int32} {v2 : Int32} {m : jMem} {r : (Int32 × jMem)} (h : f_D_letterAt v1 v2 m = some r) : jfr W_D_letterAt m r.2 := by
  unfold f_D_letterAt at h
  have hf : jfr W_D_letterAt m m := jfr_rf
  obtain ⟨x1, m2, zm2, h⟩ := jbd_some h
  replace hf := jfr_tr hf (jfr_sub (W := W_C_isWriter) rfl (fr_C_isWriter zm2))
  refine jem (p := x1 = 0) (fun c => ?_) (fun c => ?_)
  · rw [if_pos c] at h
    cases h
    exact hf
  · rw [if_neg c] at h
    refine jem (p := v2 < 0) (fun c => ?_) (fun c => ?_)
    · rw [if_pos c] at h
      cases h
      exact hf
    · rw [if_neg c] at h
      refine jem (p := (30 : Int32) ≤ v2) (fun c => ?_) (fun c => ?_)
      · rw [if_pos c] at h
        cases h
        exact hf
      · rw [if_neg c] at h
        obtain ⟨q3, eq3, gq3, h⟩ := jl3_some h
        obtain ⟨x4, ex4, g, h⟩ := jld_some h
        cases h
        exact hf

def W_D_take : List (Nat × Nat) := [(67, 0), (68, 0), (69, 0), (70, 0), (71, 0), (72, 0), (73, 0), (74, 0), (75, 0), (77, 0), (78, 0), (79, 0), (80, 0), (81, 0), (82, 0)]
theorem fr_lp_D_take_16 {m0 : jMem} (v1 : Int32) (v2 : Int32) (v3 : Int32) (k67 : Int32 → jMem → Option (Unit × jMem))
    (hk67 : ∀ (v4 : Int32) (m : jMem) (r : (Unit × jMem)), jfr W_D_take m0 m → k67 v4 m = some r → jfr W_D_take m0 r.2) : ∀ (n : Nat) (v4 : Int32) (v5 : Int32) (m : jMem) (r : (Unit × jMem)), jfr W_D_take m0 m → lp_D_take_16 v1 v2 v3 k67 n v4 v5 m = some r → jfr W_D_take m0 r.2 := by
  intro n
  induction n with
  | zero => intro v4 v5 m r hf h; unfold lp_D_take_16 at h; cases h
  | succ n ih =>
    intro v4 v5 m r hf h
    unfold lp_D_take_16 at h
    obtain ⟨x3, ex3, g, h⟩ := jld_some h
    refine jem (p := x3 ≤ v5) (fun c => ?_) (fun c => ?_)
    · rw [if_pos c] at h
      exact hk67 v4 m _ hf h
    · rw [if_neg c] at h
      obtain ⟨q4, eq4, gq4, h⟩ := jl3_some h
      obtain ⟨x5, ex5, g, h⟩ := jld_some h
      refine jem (p := x5 = v2) (fun c => ?_) (fun c => ?_)
      · rw [if_pos c] at h
        exact ih v4 (v5 + (1 : Int32)) m _ hf h
      · rw [if_neg c] at h
        obtain ⟨q6, eq6, gq6, h⟩ := jl3_some h
        obtain ⟨q7, eq7, gq7, h⟩ := jl3_some h
        obtain ⟨x8, ex8, g, h⟩ := jld_some h
        obtain ⟨m9, hm9, g, h⟩ := jst_some h
        replace hf := jfr_tr hf (jfr_ua hm9 (jrows_66 W_D_take (by decide) eq6 gq6))
        exact ih (v4 + (1 : Int32)) (v5 + (1 : Int32)) m9 _ hf h
theorem fr_D_take {v1 : Int32} {v2 : Int32} {v3 : Int32} {m : jMem} {r : (Unit × jMem)} (h : f_D_take v1 v2 v3 m = some r) : jfr W_D_take m r.2 := by
  unfold f_D_take at h
  have hf : jfr W_D_take m m := jfr_rf
  obtain ⟨x1, m2, zm2, h⟩ := jbd_some h
  replace hf := jfr_tr hf (jfr_sub (W := W_D_holds) rfl (fr_D_holds zm2))
  refine jem_ne (p := x1 = 0) (fun c => ?_) (fun c => ?_)
  · rw [if_neg c] at h
    refine fr_lp_D_take_16 v1 v2 v3 _ ?_ _ (0 : Int32) (0 : Int32) m2 _ hf h
    intro w11 m10 r hf h
    obtain ⟨m12, hm12, g, h⟩ := jst_some h
    replace hf := jfr_tr hf (jfr_ua hm12 rfl)
    obtain ⟨x13, ex13, g, h⟩ := jld_some h
    obtain ⟨x14, m15, zm15, h⟩ := jbd_some h
    replace hf := jfr_tr hf (jfr_sub (W := W_C_bit) rfl (fr_C_bit zm15))
    obtain ⟨m16, hm16, g, h⟩ := jst_some h
    replace hf := jfr_tr hf (jfr_ua hm16 rfl)
    obtain ⟨x17, ex17, g, h⟩ := jld_some h
    obtain ⟨x18, m19, zm19, h⟩ := jbd_some h
    replace hf := jfr_tr hf (jfr_sub (W := W_C_bit) rfl (fr_C_bit zm19))
    obtain ⟨m20, hm20, g, h⟩ := jst_some h
    replace hf := jfr_tr hf (jfr_ua hm20 rfl)
    obtain ⟨q21, eq21, gq21, h⟩ := jl3_some h
    obtain ⟨m22, hm22, g, h⟩ := jst_some h
    replace hf := jfr_tr hf (jfr_ua hm22 (jrows_76 W_D_take (by decide) eq21 gq21))
    cases h
    exact hf
  · rw [if_pos c] at h
    cases h
    exact hf

def W_P_onTheWayTo : List (Nat × Nat) := []
theorem fr_lp_P_onTheWayTo_4 {m0 : jMem} (v1 : Int32) (k49 : Int32 → jMem → Option (Int32 × jMem))
    (hk49 : ∀ (v2 : Int32) (m : jMem) (r : (Int32 × jMem)), jfr W_P_onTheWayTo m0 m → k49 v2 m = some r → jfr W_P_onTheWayTo m0 r.2) : ∀ (n : Nat) (v2 : Int32) (v3 : Int32) (m : jMem) (r : (Int32 × jMem)), jfr W_P_onTheWayTo m0 m → lp_P_onTheWayTo_4 v1 k49 n v2 v3 m = some r → jfr W_P_onTheWayTo m0 r.2 := by
  intro n
  induction n with
  | zero => intro v2 v3 m r hf h; unfold lp_P_onTheWayTo_4 at h; cases h
  | succ n ih =>
    intro v2 v3 m r hf h
    unfold lp_P_onTheWayTo_4 at h
    refine jem (p := (m 45 10) ≤ v3) (fun c => ?_) (fun c => ?_)
    · rw [if_pos c] at h
      exact hk49 v2 m _ hf h
    · rw [if_neg c] at h
      obtain ⟨x1, ex1, g, h⟩ := jld_some h
      refine jem_ne (p := x1 = 0) (fun c => ?_) (fun c => ?_)
      · rw [if_neg c] at h
        exact ih v2 (v3 + (1 : Int32)) m _ hf h
      · rw [if_pos c] at h
        obtain ⟨x2, ex2, g, h⟩ := jld_some h
        refine jem_ne (p := x2 = v1) (fun c => ?_) (fun c => ?_)
        · rw [if_neg c] at h
          exact ih v2 (v3 + (1 : Int32)) m _ hf h
        · rw [if_pos c] at h
          obtain ⟨x3, ex3, g, h⟩ := jld_some h
          obtain ⟨x4, m5, zm5, h⟩ := jbd_some h
          replace hf := jfr_tr hf (jfr_sub (W := W_C_bit) rfl (fr_C_bit zm5))
          exact ih (v2 ||| x4) (v3 + (1 : Int32)) m5 _ hf h
theorem fr_P_onTheWayTo {v1 : Int32} {m : jMem} {r : (Int32 × jMem)} (h : f_P_onTheWayTo v1 m = some r) : jfr W_P_onTheWayTo m r.2 := by
  unfold f_P_onTheWayTo at h
  have hf : jfr W_P_onTheWayTo m m := jfr_rf
  refine fr_lp_P_onTheWayTo_4 v1 _ ?_ _ (0 : Int32) (0 : Int32) m _ hf h
  intro w7 m6 r hf h
  cases h
  exact hf

def W_U_mayHaveKnown : List (Nat × Nat) := []
theorem fr_U_mayHaveKnown {v1 : Int32} {v2 : Int32} {m : jMem} {r : (Int32 × jMem)} (h : f_U_mayHaveKnown v1 v2 m = some r) : jfr W_U_mayHaveKnown m r.2 := by
  unfold f_U_mayHaveKnown at h
  have hf : jfr W_U_mayHaveKnown m m := jfr_rf
  obtain ⟨x1, ex1, g, h⟩ := jld_some h
  obtain ⟨x2, ex2, g, h⟩ := jld_some h
  refine jem_ne (p := x1 = x2) (fun c => ?_) (fun c => ?_)
  · rw [if_neg c] at h
    obtain ⟨x3, ex3, g, h⟩ := jld_some h
    obtain ⟨x4, ex4, g, h⟩ := jld_some h
    obtain ⟨q5, eq5, gq5, h⟩ := jl3_some h
    obtain ⟨x6, ex6, g, h⟩ := jld_some h
    refine jem (p := (x3 - x4) < x6) (fun c => ?_) (fun c => ?_)
    · rw [if_pos c] at h
      cases h
      exact hf
    · rw [if_neg c] at h
      cases h
      exact hf
  · rw [if_pos c] at h
    refine jem (p := v2 ≤ v1) (fun c => ?_) (fun c => ?_)
    · rw [if_pos c] at h
      cases h
      exact hf
    · rw [if_neg c] at h
      cases h
      exact hf

def W_U_numberIn : List (Nat × Nat) := []
theorem fr_U_numberIn {v0 : Int32} {v1 : Int32} {m : jMem} {r : (Int32 × jMem)} (h : f_U_numberIn v0 v1 m = some r) : jfr W_U_numberIn m r.2 := by
  unfold f_U_numberIn at h
  have hf : jfr W_U_numberIn m m := jfr_rf
  cases h
  exact hf

def W_U_bearsMore : List (Nat × Nat) := []
theorem fr_lp_U_bearsMore_2 {m0 : jMem} (v1 : Int32) (v2 : Int32) (k25 : jMem → Option (Int32 × jMem)) (k33 : jMem → Option (Int32 × jMem))
    (hk25 : ∀ (m : jMem) (r : (Int32 × jMem)), jfr W_U_bearsMore m0 m → k25 m = some r → jfr W_U_bearsMore m0 r.2)
    (hk33 : ∀ (m : jMem) (r : (Int32 × jMem)), jfr W_U_bearsMore m0 m → k33 m = some r → jfr W_U_bearsMore m0 r.2) : ∀ (n : Nat) (v3 : Int32) (m : jMem) (r : (Int32 × jMem)), jfr W_U_bearsMore m0 m → lp_U_bearsMore_2 v1 v2 k25 k33 n v3 m = some r → jfr W_U_bearsMore m0 r.2 := by
  intro n
  induction n with
  | zero => intro v3 m r hf h; unfold lp_U_bearsMore_2 at h; cases h
  | succ n ih =>
    intro v3 m r hf h
    unfold lp_U_bearsMore_2 at h
    refine jem (p := (6 : Int32) ≤ v3) (fun c => ?_) (fun c => ?_)
    · rw [if_pos c] at h
      exact hk33  m _ hf h
    · rw [if_neg c] at h
      obtain ⟨x1, m2, zm2, h⟩ := jbd_some h
      replace hf := jfr_tr hf (jfr_sub (W := W_L_numberFor) rfl (fr_L_numberFor zm2))
      obtain ⟨x3, m4, zm4, h⟩ := jbd_some h
      replace hf := jfr_tr hf (jfr_sub (W := W_U_numberIn) rfl (fr_U_numberIn zm4))
      refine jem (p := x1 ≤ x3) (fun c => ?_) (fun c => ?_)
      · rw [if_pos c] at h
        exact ih (v3 + (1 : Int32)) m4 _ hf h
      · rw [if_neg c] at h
        exact hk25  m4 _ hf h
theorem fr_U_bearsMore {v1 : Int32} {v2 : Int32} {m : jMem} {r : (Int32 × jMem)} (h : f_U_bearsMore v1 v2 m = some r) : jfr W_U_bearsMore m r.2 := by
  unfold f_U_bearsMore at h
  have hf : jfr W_U_bearsMore m m := jfr_rf
  refine fr_lp_U_bearsMore_2 v1 v2 _ _ ?_ ?_ _ (0 : Int32) m _ hf h
  · intro m5 r hf h
    cases h
    exact hf
  · intro m6 r hf h
    cases h
    exact hf

def W_U_doesLack : List (Nat × Nat) := []
theorem fr_lp_U_doesLack_3 {m0 : jMem} (v1 : Int32) (v2 : Int32) (v3 : Int32) (k75 : jMem → Option (Int32 × jMem)) (k83 : jMem → Option (Int32 × jMem))
    (hk75 : ∀ (m : jMem) (r : (Int32 × jMem)), jfr W_U_doesLack m0 m → k75 m = some r → jfr W_U_doesLack m0 r.2)
    (hk83 : ∀ (m : jMem) (r : (Int32 × jMem)), jfr W_U_doesLack m0 m → k83 m = some r → jfr W_U_doesLack m0 r.2) : ∀ (n : Nat) (v4 : Int32) (m : jMem) (r : (Int32 × jMem)), jfr W_U_doesLack m0 m → lp_U_doesLack_3 v1 v2 v3 k75 k83 n v4 m = some r → jfr W_U_doesLack m0 r.2 := by
  intro n
  induction n with
  | zero => intro v4 m r hf h; unfold lp_U_doesLack_3 at h; cases h
  | succ n ih =>
    intro v4 m r hf h
    unfold lp_U_doesLack_3 at h
    refine jem (p := (6 : Int32) ≤ v4) (fun c => ?_) (fun c => ?_)
    · rw [if_pos c] at h
      exact hk83  m _ hf h
    · rw [if_neg c] at h
      obtain ⟨x1, m2, zm2, h⟩ := jbd_some h
      replace hf := jfr_tr hf (jfr_sub (W := W_U_numberIn) rfl (fr_U_numberIn zm2))
      obtain ⟨x3, m4, zm4, h⟩ := jbd_some h
      replace hf := jfr_tr hf (jfr_sub (W := W_L_ofWriter) rfl (fr_L_ofWriter zm4))
      refine jem (p := x3 = (-1 : Int32)) (fun c => ?_) (fun c => ?_)
      · rw [if_pos c] at h
        refine jem (p := (0 : Int32) = 0) (fun c => ?_) (fun c => ?_)
        · rw [if_pos c] at h
          exact ih (v4 + (1 : Int32)) m4 _ hf h
        · rw [if_neg c] at h
          obtain ⟨x5, m6, zm6, h⟩ := jbd_some h
          replace hf := jfr_tr hf (jfr_sub (W := W_U_bearsMore) rfl (fr_U_bearsMore zm6))
          refine jem (p := x5 = 0) (fun c => ?_) (fun c => ?_)
          · rw [if_pos c] at h
            exact ih (v4 + (1 : Int32)) m6 _ hf h
          · rw [if_neg c] at h
            exact hk75  m6 _ hf h
      · rw [if_neg c] at h
        refine jem_ne (p := v4 = v1) (fun c => ?_) (fun c => ?_)
        · rw [if_neg c] at h
          refine jem (p := (1 : Int32) = 0) (fun c => ?_) (fun c => ?_)
          · rw [if_pos c] at h
            exact ih (v4 + (1 : Int32)) m4 _ hf h
          · rw [if_neg c] at h
            obtain ⟨x7, m8, zm8, h⟩ := jbd_some h
            replace hf := jfr_tr hf (jfr_sub (W := W_U_bearsMore) rfl (fr_U_bearsMore zm8))
            refine jem (p := x7 = 0) (fun c => ?_) (fun c => ?_)
            · rw [if_pos c] at h
              exact ih (v4 + (1 : Int32)) m8 _ hf h
            · rw [if_neg c] at h
              exact hk75  m8 _ hf h
        · rw [if_pos c] at h
          obtain ⟨x9, ex9, g, h⟩ := jld_some h
          refine jem (p := v2 < x9) (fun c => ?_) (fun c => ?_)
          · rw [if_pos c] at h
            refine jem (p := (0 : Int32) = 0) (fun c => ?_) (fun c => ?_)
            · rw [if_pos c] at h
              exact ih (v4 + (1 : Int32)) m4 _ hf h
            · rw [if_neg c] at h
              obtain ⟨x10, m11, zm11, h⟩ := jbd_some h
              replace hf := jfr_tr hf (jfr_sub (W := W_U_bearsMore) rfl (fr_U_bearsMore zm11))
              refine jem (p := x10 = 0) (fun c => ?_) (fun c => ?_)
              · rw [if_pos c] at h
                exact ih (v4 + (1 : Int32)) m11 _ hf h
              · rw [if_neg c] at h
                exact hk75  m11 _ hf h
          · rw [if_neg c] at h
            refine jem (p := (1 : Int32) = 0) (fun c => ?_) (fun c => ?_)
            · rw [if_pos c] at h
              exact ih (v4 + (1 : Int32)) m4 _ hf h
            · rw [if_neg c] at h
              obtain ⟨x12, m13, zm13, h⟩ := jbd_some h
              replace hf := jfr_tr hf (jfr_sub (W := W_U_bearsMore) rfl (fr_U_bearsMore zm13))
              refine jem (p := x12 = 0) (fun c => ?_) (fun c => ?_)
              · rw [if_pos c] at h
                exact ih (v4 + (1 : Int32)) m13 _ hf h
              · rw [if_neg c] at h
                exact hk75  m13 _ hf h
theorem fr_U_doesLack {v1 : Int32} {v2 : Int32} {v3 : Int32} {m : jMem} {r : (Int32 × jMem)} (h : f_U_doesLack v1 v2 v3 m = some r) : jfr W_U_doesLack m r.2 := by
  unfold f_U_doesLack at h
  have hf : jfr W_U_doesLack m m := jfr_rf
  refine fr_lp_U_doesLack_3 v1 v2 v3 _ _ ?_ ?_ _ (0 : Int32) m _ hf h
  · intro m14 r hf h
    cases h
    exact hf
  · intro m15 r hf h
    cases h
    exact hf

def W_U_goesBack : List (Nat × Nat) := []
theorem fr_U_goesBack {v1 : Int32} {v2 : Int32} {v3 : Int32} {m : jMem} {r : (Int32 × jMem)} (h : f_U_goesBack v1 v2 v3 m = some r) : jfr W_U_goesBack m r.2 := by
  unfold f_U_goesBack at h
  have hf : jfr W_U_goesBack m m := jfr_rf
  obtain ⟨x1, m2, zm2, h⟩ := jbd_some h
  replace hf := jfr_tr hf (jfr_sub (W := W_L_writtenBy) rfl (fr_L_writtenBy zm2))
  obtain ⟨x3, m4, zm4, h⟩ := jbd_some h
  replace hf := jfr_tr hf (jfr_sub (W := W_L_ofWriter) rfl (fr_L_ofWriter zm4))
  refine jem (p := x3 = (-1 : Int32)) (fun c => ?_) (fun c => ?_)
  · rw [if_pos c] at h
    cases h
    exact hf
  · rw [if_neg c] at h
    obtain ⟨x5, m6, zm6, h⟩ := jbd_some h
    replace hf := jfr_tr hf (jfr_sub (W := W_U_bearsMore) rfl (fr_U_bearsMore zm6))
    refine jem (p := x5 = 0) (fun c => ?_) (fun c => ?_)
    · rw [if_pos c] at h
      cases h
      exact hf
    · rw [if_neg c] at h
      cases h
      exact hf

def W_U_isTooMuch : List (Nat × Nat) := []
theorem fr_lp_U_isTooMuch_3 {m0 : jMem} (v1 : Int32) (v2 : Int32) (v3 : Int32) (k61 : jMem → Option (Int32 × jMem)) (k69 : jMem → Option (Int32 × jMem))
    (hk61 : ∀ (m : jMem) (r : (Int32 × jMem)), jfr W_U_isTooMuch m0 m → k61 m = some r → jfr W_U_isTooMuch m0 r.2)
    (hk69 : ∀ (m : jMem) (r : (Int32 × jMem)), jfr W_U_isTooMuch m0 m → k69 m = some r → jfr W_U_isTooMuch m0 r.2) : ∀ (n : Nat) (v4 : Int32) (m : jMem) (r : (Int32 × jMem)), jfr W_U_isTooMuch m0 m → lp_U_isTooMuch_3 v1 v2 v3 k61 k69 n v4 m = some r → jfr W_U_isTooMuch m0 r.2 := by
  intro n
  induction n with
  | zero => intro v4 m r hf h; unfold lp_U_isTooMuch_3 at h; cases h
  | succ n ih =>
    intro v4 m r hf h
    unfold lp_U_isTooMuch_3 at h
    refine jem (p := (6 : Int32) ≤ v4) (fun c => ?_) (fun c => ?_)
    · rw [if_pos c] at h
      exact hk69  m _ hf h
    · rw [if_neg c] at h
      obtain ⟨q1, eq1, gq1, h⟩ := jl3_some h
      obtain ⟨x2, ex2, g, h⟩ := jld_some h
      obtain ⟨x3, m4, zm4, h⟩ := jbd_some h
      replace hf := jfr_tr hf (jfr_sub (W := W_L_writtenBy) rfl (fr_L_writtenBy zm4))
      refine jem_ne (p := v4 = v1) (fun c => ?_) (fun c => ?_)
      · rw [if_neg c] at h
        obtain ⟨x5, m6, zm6, h⟩ := jbd_some h
        replace hf := jfr_tr hf (jfr_sub (W := W_C_truth) rfl (fr_C_truth zm6))
        obtain ⟨x7, m8, zm8, h⟩ := jbd_some h
        replace hf := jfr_tr hf (jfr_sub (W := W_U_numberIn) rfl (fr_U_numberIn zm8))
        refine jem (p := x7 ≤ (x3 + x5)) (fun c => ?_) (fun c => ?_)
        · rw [if_pos c] at h
          exact ih (v4 + (1 : Int32)) m8 _ hf h
        · rw [if_neg c] at h
          exact hk61  m8 _ hf h
      · rw [if_pos c] at h
        obtain ⟨x9, m10, zm10, h⟩ := jbd_some h
        replace hf := jfr_tr hf (jfr_sub (W := W_C_truth) rfl (fr_C_truth zm10))
        obtain ⟨x11, m12, zm12, h⟩ := jbd_some h
        replace hf := jfr_tr hf (jfr_sub (W := W_U_numberIn) rfl (fr_U_numberIn zm12))
        refine jem (p := x11 ≤ (x3 + x9)) (fun c => ?_) (fun c => ?_)
        · rw [if_pos c] at h
          exact ih (v4 + (1 : Int32)) m12 _ hf h
        · rw [if_neg c] at h
          exact hk61  m12 _ hf h
theorem fr_U_isTooMuch {v1 : Int32} {v2 : Int32} {v3 : Int32} {m : jMem} {r : (Int32 × jMem)} (h : f_U_isTooMuch v1 v2 v3 m = some r) : jfr W_U_isTooMuch m r.2 := by
  unfold f_U_isTooMuch at h
  have hf : jfr W_U_isTooMuch m m := jfr_rf
  refine fr_lp_U_isTooMuch_3 v1 v2 v3 _ _ ?_ ?_ _ (0 : Int32) m _ hf h
  · intro m13 r hf h
    cases h
    exact hf
  · intro m14 r hf h
    cases h
    exact hf

def W_U_verdict : List (Nat × Nat) := []
theorem fr_U_verdict {v1 : Int32} {v2 : Int32} {v3 : Int32} {m : jMem} {r : (Int32 × jMem)} (h : f_U_verdict v1 v2 v3 m = some r) : jfr W_U_verdict m r.2 := by
  unfold f_U_verdict at h
  have hf : jfr W_U_verdict m m := jfr_rf
  obtain ⟨x1, m2, zm2, h⟩ := jbd_some h
  replace hf := jfr_tr hf (jfr_sub (W := W_U_isTooMuch) rfl (fr_U_isTooMuch zm2))
  refine jem (p := x1 = 0) (fun c => ?_) (fun c => ?_)
  · rw [if_pos c] at h
    obtain ⟨x3, m4, zm4, h⟩ := jbd_some h
    replace hf := jfr_tr hf (jfr_sub (W := W_U_doesLack) rfl (fr_U_doesLack zm4))
    refine jem (p := x3 = 0) (fun c => ?_) (fun c => ?_)
    · rw [if_pos c] at h
      obtain ⟨x5, m6, zm6, h⟩ := jbd_some h
      replace hf := jfr_tr hf (jfr_sub (W := W_U_goesBack) rfl (fr_U_goesBack zm6))
      refine jem (p := x5 = 0) (fun c => ?_) (fun c => ?_)
      · rw [if_pos c] at h
        cases h
        exact hf
      · rw [if_neg c] at h
        cases h
        exact hf
    · rw [if_neg c] at h
      cases h
      exact hf
  · rw [if_neg c] at h
    cases h
    exact hf

def W_D_allHeld : List (Nat × Nat) := []
theorem fr_lp_D_allHeld_4 {m0 : jMem} (k25 : Int32 → jMem → Option (Int32 × jMem))
    (hk25 : ∀ (v1 : Int32) (m : jMem) (r : (Int32 × jMem)), jfr W_D_allHeld m0 m → k25 v1 m = some r → jfr W_D_allHeld m0 r.2) : ∀ (n : Nat) (v1 : Int32) (v2 : Int32) (m : jMem) (r : (Int32 × jMem)), jfr W_D_allHeld m0 m → lp_D_allHeld_4 k25 n v1 v2 m = some r → jfr W_D_allHeld m0 r.2 := by
  intro n
  induction n with
  | zero => intro v1 v2 m r hf h; unfold lp_D_allHeld_4 at h; cases h
  | succ n ih =>
    intro v1 v2 m r hf h
    unfold lp_D_allHeld_4 at h
    refine jem (p := (6 : Int32) ≤ v2) (fun c => ?_) (fun c => ?_)
    · rw [if_pos c] at h
      exact hk25 v1 m _ hf h
    · rw [if_neg c] at h
      obtain ⟨x1, ex1, g, h⟩ := jld_some h
      exact ih (v1 + x1) (v2 + (1 : Int32)) m _ hf h
theorem fr_D_allHeld {m : jMem} {r : (Int32 × jMem)} (h : f_D_allHeld m = some r) : jfr W_D_allHeld m r.2 := by
  unfold f_D_allHeld at h
  have hf : jfr W_D_allHeld m m := jfr_rf
  refine fr_lp_D_allHeld_4 _ ?_ _ (0 : Int32) (0 : Int32) m _ hf h
  intro w3 m2 r hf h
  cases h
  exact hf

def W_D_allRead : List (Nat × Nat) := []
theorem fr_lp_D_allRead_4 {m0 : jMem} (k28 : Int32 → jMem → Option (Int32 × jMem))
    (hk28 : ∀ (v1 : Int32) (m : jMem) (r : (Int32 × jMem)), jfr W_D_allRead m0 m → k28 v1 m = some r → jfr W_D_allRead m0 r.2) : ∀ (n : Nat) (v1 : Int32) (v2 : Int32) (m : jMem) (r : (Int32 × jMem)), jfr W_D_allRead m0 m → lp_D_allRead_4 k28 n v1 v2 m = some r → jfr W_D_allRead m0 r.2 := by
  intro n
  induction n with
  | zero => intro v1 v2 m r hf h; unfold lp_D_allRead_4 at h; cases h
  | succ n ih =>
    intro v1 v2 m r hf h
    unfold lp_D_allRead_4 at h
    refine jem (p := (6 : Int32) ≤ v2) (fun c => ?_) (fun c => ?_)
    · rw [if_pos c] at h
      exact hk28 v1 m _ hf h
    · rw [if_neg c] at h
      obtain ⟨x1, ex1, g, h⟩ := jld_some h
      obtain ⟨x2, m3, zm3, h⟩ := jbd_some h
      replace hf := jfr_tr hf (jfr_sub (W := W_JI_bitCount) rfl (fr_JI_bitCount zm3))
      exact ih (v1 + x2) (v2 + (1 : Int32)) m3 _ hf h
theorem fr_D_allRead {m : jMem} {r : (Int32 × jMem)} (h : f_D_allRead m = some r) : jfr W_D_allRead m r.2 := by
  unfold f_D_allRead at h
  have hf : jfr W_D_allRead m m := jfr_rf
  refine fr_lp_D_allRead_4 _ ?_ _ (0 : Int32) (0 : Int32) m _ hf h
  intro w5 m4 r hf h
  cases h
  exact hf

def W_P_howManyUnderWay : List (Nat × Nat) := []
theorem fr_lp_P_howManyUnderWay_4 {m0 : jMem} (k38 : Int32 → jMem → Option (Int32 × jMem))
    (hk38 : ∀ (v1 : Int32) (m : jMem) (r : (Int32 × jMem)), jfr W_P_howManyUnderWay m0 m → k38 v1 m = some r → jfr W_P_howManyUnderWay m0 r.2) : ∀ (n : Nat) (v1 : Int32) (v2 : Int32) (m : jMem) (r : (Int32 × jMem)), jfr W_P_howManyUnderWay m0 m → lp_P_howManyUnderWay_4 k38 n v1 v2 m = some r → jfr W_P_howManyUnderWay m0 r.2 := by
  intro n
  induction n with
  | zero => intro v1 v2 m r hf h; unfold lp_P_howManyUnderWay_4 at h; cases h
  | succ n ih =>
    intro v1 v2 m r hf h
    unfold lp_P_howManyUnderWay_4 at h
    refine jem (p := (m 45 10) ≤ v2) (fun c => ?_) (fun c => ?_)
    · rw [if_pos c] at h
      exact hk38 v1 m _ hf h
    · rw [if_neg c] at h
      obtain ⟨x1, ex1, g, h⟩ := jld_some h
      refine jem_ne (p := x1 = 0) (fun c => ?_) (fun c => ?_)
      · rw [if_neg c] at h
        obtain ⟨x2, m3, zm3, h⟩ := jbd_some h
        replace hf := jfr_tr hf (jfr_sub (W := W_C_truth) rfl (fr_C_truth zm3))
        exact ih (v1 + x2) (v2 + (1 : Int32)) m3 _ hf h
      · rw [if_pos c] at h
        obtain ⟨x4, m5, zm5, h⟩ := jbd_some h
        replace hf := jfr_tr hf (jfr_sub (W := W_C_truth) rfl (fr_C_truth zm5))
        exact ih (v1 + x4) (v2 + (1 : Int32)) m5 _ hf h
theorem fr_P_howManyUnderWay {m : jMem} {r : (Int32 × jMem)} (h : f_P_howManyUnderWay m = some r) : jfr W_P_howManyUnderWay m r.2 := by
  unfold f_P_howManyUnderWay at h
  have hf : jfr W_P_howManyUnderWay m m := jfr_rf
  refine fr_lp_P_howManyUnderWay_4 _ ?_ _ (0 : Int32) (0 : Int32) m _ hf h
  intro w7 m6 r hf h
  cases h
  exact hf
