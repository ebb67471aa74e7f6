def W_H_clear : List (Nat × Nat) := [(3, 2), (3, 3), (3, 8), (3, 11), (3, 12), (12, 2), (12, 3), (12, 8), (12, 11), (12, 12)]
theorem fr_H_clear {hb : Nat} (hh : jhok hb) {m : jMem} {r : (Unit × jMem)} (h : f_H_clear hb m = some r) : jfr W_H_clear m r.2 := by
  unfold f_H_clear at h
  have hf : jfr W_H_clear m m := jfr_rf
  obtain ⟨m1, hm1, h⟩ := jpu_some h
  replace hf := jfr_tr hf (jfr_up hm1 (jhW (off := 0) hh rfl rfl))
  obtain ⟨m2, hm2, h⟩ := jpu_some h
  replace hf := jfr_tr hf (jfr_up hm2 (jhW (off := 0) hh rfl rfl))
  obtain ⟨m3, hm3, h⟩ := jpu_some h
  replace hf := jfr_tr hf (jfr_up hm3 (jhW (off := 0) hh rfl rfl))
  obtain ⟨m4, hm4, h⟩ := jpu_some h
  replace hf := jfr_tr hf (jfr_up hm4 (jhW (off := 0) hh rfl rfl))
  obtain ⟨m5, hm5, h⟩ := jpu_some h
  replace hf := jfr_tr hf (jfr_up hm5 (jhW (off := 0) hh rfl rfl))
  cases h
  exact hf

def W_R_fail : List (Nat × Nat) := [(21, 5), (21, 6)]
theorem fr_R_fail {v1 : Int32} {m : jMem} {r : (Unit × jMem)} (h : f_R_fail v1 m = some r) : jfr W_R_fail m r.2 := by
  unfold f_R_fail at h
  have hf : jfr W_R_fail m m := jfr_rf
  obtain ⟨m1, hm1, h⟩ := jpu_some h
  replace hf := jfr_tr hf (jfr_up hm1 rfl)
  obtain ⟨x2, ex2, g, h⟩ := jld_some h
  obtain ⟨m3, hm3, h⟩ := jpu_some h
  replace hf := jfr_tr hf (jfr_up hm3 rfl)
  cases h
  exact hf

def W_R_stepTo : List (Nat × Nat) := [(21, 2), (21, 3), (21, 4)]
theorem fr_R_stepTo {v1 : Int32} {m : jMem} {r : (Unit × jMem)} (h : f_R_stepTo v1 m = some r) : jfr W_R_stepTo m r.2 := by
  unfold f_R_stepTo at h
  have hf : jfr W_R_stepTo m m := jfr_rf
  refine jem (p := v1 < 0) (fun c => ?_) (fun c => ?_)
  · rw [if_pos c] at h
    cases h
    exact hf
  · rw [if_neg c] at h
    refine jem (p := (m 24 5) ≤ v1) (fun c => ?_) (fun c => ?_)
    · rw [if_pos c] at h
      cases h
      exact hf
    · rw [if_neg c] at h
      obtain ⟨m1, hm1, h⟩ := jpu_some h
      replace hf := jfr_tr hf (jfr_up hm1 rfl)
      obtain ⟨q2, eq2, g, h⟩ := jl4_some h
      refine jem_ne (p := q2 = 0) (fun c => ?_) (fun c => ?_)
      · rw [if_neg c] at h
        obtain ⟨g4, h⟩ := jgd_some h
        obtain ⟨m3, hm3, h⟩ := jpu_some h
        replace hf := jfr_tr hf (jfr_up hm3 rfl)
        obtain ⟨x5, ex5, g, h⟩ := jld_some h
        obtain ⟨m6, hm6, h⟩ := jpu_some h
        replace hf := jfr_tr hf (jfr_up hm6 rfl)
        cases h
        exact hf
      · rw [if_pos c] at h
        obtain ⟨m7, hm7, h⟩ := jpu_some h
        replace hf := jfr_tr hf (jfr_up hm7 rfl)
        obtain ⟨x8, ex8, g, h⟩ := jld_some h
        obtain ⟨m9, hm9, h⟩ := jpu_some h
        replace hf := jfr_tr hf (jfr_up hm9 rfl)
        cases h
        exact hf

def W_H_addHabit : List (Nat × Nat) := [(3, 3), (3, 8), (5, 0), (6, 0), (7, 0), (8, 0), (12, 3), (12, 8), (14, 0), (15, 0), (16, 0), (17, 0)]
theorem fr_H_addHabit {hb : Nat} (hh : jhok hb) {v1 : Int32} {v2 : Int32} {v3 : Int32} {m : jMem} {r : (Unit × jMem)} (h : f_H_addHabit hb v1 v2 v3 m = some r) : jfr W_H_addHabit m r.2 := by
  unfold f_H_addHabit at h
  have hf : jfr W_H_addHabit m m := jfr_rf
  refine jem (p := (m hb 7) < (8 : Int32)) (fun c => ?_) (fun c => ?_)
  · rw [if_pos c] at h
    obtain ⟨m1, hm1, g, h⟩ := jst_some h
    replace hf := jfr_tr hf (jfr_ua hm1 (jhW (off := 2) hh rfl rfl))
    obtain ⟨m2, hm2, g, h⟩ := jst_some h
    replace hf := jfr_tr hf (jfr_ua hm2 (jhW (off := 3) hh rfl rfl))
    obtain ⟨m3, hm3, g, h⟩ := jst_some h
    replace hf := jfr_tr hf (jfr_ua hm3 (jhW (off := 4) hh rfl rfl))
    obtain ⟨m4, hm4, g, h⟩ := jst_some h
    replace hf := jfr_tr hf (jfr_ua hm4 (jhW (off := 5) hh rfl rfl))
    obtain ⟨m5, hm5, h⟩ := jpu_some h
    replace hf := jfr_tr hf (jfr_up hm5 (jhW (off := 0) hh rfl rfl))
    obtain ⟨m6, hm6, h⟩ := jpu_some h
    replace hf := jfr_tr hf (jfr_up hm6 (jhW (off := 0) hh rfl rfl))
    cases h
    exact hf
  · rw [if_neg c] at h
    cases h
    exact hf

def W_R_takeWriters : List (Nat × Nat) := [(21, 2), (21, 3), (21, 4), (21, 5), (21, 6)]
theorem fr_lp_R_takeWriters_4 {m0 : jMem} (v1 : Int32) (k91 : Int32 → jMem → Option (Int32 × jMem))
    (hk91 : ∀ (v2 : Int32) (m : jMem) (r : (Int32 × jMem)), jfr W_R_takeWriters m0 m → k91 v2 m = some r → jfr W_R_takeWriters m0 r.2) : ∀ (n : Nat) (v2 : Int32) (v3 : Int32) (m : jMem) (r : (Int32 × jMem)), jfr W_R_takeWriters m0 m → lp_R_takeWriters_4 v1 k91 n v2 v3 m = some r → jfr W_R_takeWriters m0 r.2 := by
  intro n
  induction n with
  | zero => intro v2 v3 m r hf h; unfold lp_R_takeWriters_4 at h; cases h
  | succ n ih =>
    intro v2 v3 m r hf h
    unfold lp_R_takeWriters_4 at h
    refine jem (p := (6 : Int32) < v3) (fun c => ?_) (fun c => ?_)
    · rw [if_pos c] at h
      exact hk91 v2 m _ hf h
    · rw [if_neg c] at h
      obtain ⟨g, h⟩ := jgd_some h
      refine jem_ne (p := (m 21 2).toNatClampNeg = 1003) (fun c => ?_) (fun c => ?_)
      · rw [if_neg c] at h
        exact hk91 v2 m _ hf h
      · rw [if_pos c] at h
        refine jem_ne (p := (m 21 4) = 0) (fun c => ?_) (fun c => ?_)
        · rw [if_neg c] at h
          exact hk91 v2 m _ hf h
        · rw [if_pos c] at h
          refine jem (p := (m 21 3) < (6 : Int32)) (fun c => ?_) (fun c => ?_)
          · rw [if_pos c] at h
            obtain ⟨x1, m2, zm2, h⟩ := jbd_some h
            replace hf := jfr_tr hf (jfr_sub (W := W_C_isIn) rfl (fr_C_isIn zm2))
            refine jem (p := x1 = 0) (fun c => ?_) (fun c => ?_)
            · rw [if_pos c] at h
              obtain ⟨x3, m4, zm4, h⟩ := jbd_some h
              replace hf := jfr_tr hf (jfr_sub (W := W_C_bit) rfl (fr_C_bit zm4))
              obtain ⟨u5, m6, zm6, h⟩ := jbd_some h
              replace hf := jfr_tr hf (jfr_sub (W := W_R_stepTo) rfl (fr_R_stepTo zm6))
              exact ih (v2 ||| x3) (v3 + (1 : Int32)) m6 _ hf h
            · rw [if_neg c] at h
              obtain ⟨u7, m8, zm8, h⟩ := jbd_some h
              replace hf := jfr_tr hf (jfr_sub (W := W_R_fail) rfl (fr_R_fail zm8))
              exact ih v2 (v3 + (1 : Int32)) m8 _ hf h
          · rw [if_neg c] at h
            obtain ⟨u9, m10, zm10, h⟩ := jbd_some h
            replace hf := jfr_tr hf (jfr_sub (W := W_R_fail) rfl (fr_R_fail zm10))
            exact ih v2 (v3 + (1 : Int32)) m10 _ hf h
theorem fr_R_takeWriters {v1 : Int32} {m : jMem} {r : (Int32 × jMem)} (h : f_R_takeWriters v1 m = some r) : jfr W_R_takeWriters m r.2 := by
  unfold f_R_takeWriters at h
  have hf : jfr W_R_takeWriters m m := jfr_rf
  refine fr_lp_R_takeWriters_4 v1 _ ?_ _ (0 : Int32) (0 : Int32) m _ hf h
  intro w12 m11 r hf h
  cases h
  exact hf

def W_R_takeBy : List (Nat × Nat) := [(21, 2), (21, 3), (21, 4), (21, 5), (21, 6)]
theorem fr_R_takeBy {m : jMem} {r : (Int32 × jMem)} (h : f_R_takeBy m = some r) : jfr W_R_takeBy m r.2 := by
  unfold f_R_takeBy at h
  have hf : jfr W_R_takeBy m m := jfr_rf
  obtain ⟨g, h⟩ := jgd_some h
  refine jem (p := (m 21 2).toNatClampNeg = 1010) (fun c => ?_) (fun c => ?_)
  · rw [if_pos c] at h
    obtain ⟨u1, m2, zm2, h⟩ := jbd_some h
    replace hf := jfr_tr hf (jfr_sub (W := W_R_stepTo) rfl (fr_R_stepTo zm2))
    obtain ⟨g, h⟩ := jgd_some h
    refine jem (p := (m2 21 2).toNatClampNeg = 1003) (fun c => ?_) (fun c => ?_)
    · rw [if_pos c] at h
      obtain ⟨x3, m4, zm4, h⟩ := jbd_some h
      replace hf := jfr_tr hf (jfr_sub (W := W_R_takeWriters) rfl (fr_R_takeWriters zm4))
      cases h
      exact hf
    · rw [if_neg c] at h
      obtain ⟨u5, m6, zm6, h⟩ := jbd_some h
      replace hf := jfr_tr hf (jfr_sub (W := W_R_fail) rfl (fr_R_fail zm6))
      cases h
      exact hf
  · rw [if_neg c] at h
    cases h
    exact hf

def W_H_addKnot : List (Nat × Nat) := [(3, 11), (9, 0), (10, 0), (12, 11), (18, 0), (19, 0)]
theorem fr_H_addKnot {hb : Nat} (hh : jhok hb) {v1 : Nat} {v2 : Int32} {m : jMem} {r : (Unit × jMem)} (h : f_H_addKnot hb v1 v2 m = some r) : jfr W_H_addKnot m r.2 := by
  unfold f_H_addKnot at h
  have hf : jfr W_H_addKnot m m := jfr_rf
  refine jem (p := (m hb 10) < (64 : Int32)) (fun c => ?_) (fun c => ?_)
  · rw [if_pos c] at h
    obtain ⟨gt, h⟩ := jgd_some h
    obtain ⟨m1, hm1, g, h⟩ := jst_some h
    replace hf := jfr_tr hf (jfr_ua hm1 (jhW (off := 6) hh rfl rfl))
    obtain ⟨m2, hm2, g, h⟩ := jst_some h
    replace hf := jfr_tr hf (jfr_ua hm2 (jhW (off := 7) hh rfl rfl))
    obtain ⟨m3, hm3, h⟩ := jpu_some h
    replace hf := jfr_tr hf (jfr_up hm3 (jhW (off := 0) hh rfl rfl))
    cases h
    exact hf
  · rw [if_neg c] at h
    cases h
    exact hf

def W_R_settle : List (Nat × Nat) := [(3, 11), (9, 0), (10, 0), (12, 11), (18, 0), (19, 0), (21, 9)]
theorem fr_lp_R_settle_5 {m0 : jMem} (v1 : Int32) (k47 : jMem → Option (Unit × jMem)) (k73 : jMem → Option (Unit × jMem))
    (hk47 : ∀ (m : jMem) (r : (Unit × jMem)), jfr W_R_settle m0 m → k47 m = some r → jfr W_R_settle m0 r.2)
    (hk73 : ∀ (m : jMem) (r : (Unit × jMem)), jfr W_R_settle m0 m → k73 m = some r → jfr W_R_settle m0 r.2) : ∀ (n : Nat) (v2 : Int32) (m : jMem) (r : (Unit × jMem)), jfr W_R_settle m0 m → lp_R_settle_5 v1 k47 k73 n v2 m = some r → jfr W_R_settle m0 r.2 := by
  intro n
  induction n with
  | zero => intro v2 m r hf h; unfold lp_R_settle_5 at h; cases h
  | succ n ih =>
    intro v2 m r hf h
    unfold lp_R_settle_5 at h
    refine jem (p := v2 ≤ 0) (fun c => ?_) (fun c => ?_)
    · rw [if_pos c] at h
      exact hk73  m _ hf h
    · rw [if_neg c] at h
      refine jem (p := (m 21 8) ≤ 0) (fun c => ?_) (fun c => ?_)
      · rw [if_pos c] at h
        exact hk73  m _ hf h
      · rw [if_neg c] at h
        obtain ⟨q1, eq1, g, h⟩ := jl4_some h
        refine jem (p := q1 = 0) (fun c => ?_) (fun c => ?_)
        · rw [if_pos c] at h
          exact hk47  m _ hf h
        · rw [if_neg c] at h
          obtain ⟨g, h⟩ := jgd_some h
          refine jem (p := q1 = 1005) (fun c => ?_) (fun c => ?_)
          · rw [if_pos c] at h
            exact hk47  m _ hf h
          · rw [if_neg c] at h
            obtain ⟨g, h⟩ := jgd_some h
            obtain ⟨x2, ex2, h⟩ := jlt_some h
            refine jem (p := v1 ≤ x2) (fun c => ?_) (fun c => ?_)
            · rw [if_pos c] at h
              obtain ⟨g5, h⟩ := jgd_some h
              obtain ⟨u3, m4, zm4, h⟩ := jbd_some h
              replace hf := jfr_tr hf (jfr_sub (W := W_H_addKnot) rfl (fr_H_addKnot g5 zm4))
              obtain ⟨m6, hm6, h⟩ := jpu_some h
              replace hf := jfr_tr hf (jfr_up hm6 rfl)
              exact ih (v2 + (-1 : Int32)) m6 _ hf h
            · rw [if_neg c] at h
              exact hk47  m _ hf h
theorem fr_R_settle {v1 : Int32} {m : jMem} {r : (Unit × jMem)} (h : f_R_settle v1 m = some r) : jfr W_R_settle m r.2 := by
  unfold f_R_settle at h
  have hf : jfr W_R_settle m m := jfr_rf
  refine fr_lp_R_settle_5 v1 _ _ ?_ ?_ _ (m 21 8) m _ hf h
  · intro m7 r hf h
    cases h
    exact hf
  · intro m8 r hf h
    cases h
    exact hf

def W_R_closeBracket : List (Nat × Nat) := [(3, 11), (9, 0), (10, 0), (12, 11), (18, 0), (19, 0), (21, 2), (21, 3), (21, 4), (21, 9), (21, 10)]
theorem fr_R_closeBracket {m : jMem} {r : (Unit × jMem)} (h : f_R_closeBracket m = some r) : jfr W_R_closeBracket m r.2 := by
  unfold f_R_closeBracket at h
  have hf : jfr W_R_closeBracket m m := jfr_rf
  obtain ⟨u1, m2, zm2, h⟩ := jbd_some h
  replace hf := jfr_tr hf (jfr_sub (W := W_R_settle) rfl (fr_R_settle zm2))
  refine jem (p := (m2 21 8) ≤ 0) (fun c => ?_) (fun c => ?_)
  · rw [if_pos c] at h
    obtain ⟨m3, hm3, h⟩ := jpu_some h
    replace hf := jfr_tr hf (jfr_up hm3 rfl)
    obtain ⟨u4, m5, zm5, h⟩ := jbd_some h
    replace hf := jfr_tr hf (jfr_sub (W := W_R_stepTo) rfl (fr_R_stepTo zm5))
    cases h
    exact hf
  · rw [if_neg c] at h
    obtain ⟨m6, hm6, h⟩ := jpu_some h
    replace hf := jfr_tr hf (jfr_up hm6 rfl)
    obtain ⟨m7, hm7, h⟩ := jpu_some h
    replace hf := jfr_tr hf (jfr_up hm7 rfl)
    obtain ⟨u8, m9, zm9, h⟩ := jbd_some h
    replace hf := jfr_tr hf (jfr_sub (W := W_R_stepTo) rfl (fr_R_stepTo zm9))
    cases h
    exact hf

def W_R_pend : List (Nat × Nat) := [(21, 9), (22, 0)]
theorem fr_R_pend {m : jMem} {r : (Unit × jMem)} (h : f_R_pend m = some r) : jfr W_R_pend m r.2 := by
  unfold f_R_pend at h
  have hf : jfr W_R_pend m m := jfr_rf
  refine jem (p := (72 : Int32) ≤ (m 21 8)) (fun c => ?_) (fun c => ?_)
  · rw [if_pos c] at h
    cases h
    exact hf
  · rw [if_neg c] at h
    obtain ⟨gt, h⟩ := jgd_some h
    obtain ⟨m1, hm1, g, h⟩ := jst_some h
    replace hf := jfr_tr hf (jfr_ua hm1 rfl)
    obtain ⟨m2, hm2, h⟩ := jpu_some h
    replace hf := jfr_tr hf (jfr_up hm2 rfl)
    cases h
    exact hf

def W_R_takePending : List (Nat × Nat) := [(3, 12), (12, 12), (21, 2), (21, 3), (21, 4), (21, 5), (21, 6), (21, 9), (22, 0)]
theorem fr_R_takePending {m : jMem} {r : (Unit × jMem)} (h : f_R_takePending m = some r) : jfr W_R_takePending m r.2 := by
  unfold f_R_takePending at h
  have hf : jfr W_R_takePending m m := jfr_rf
  obtain ⟨g1, h⟩ := jgd_some h
  refine jem (p := (m (m 21 6).toNatClampNeg 11) < (64 : Int32)) (fun c => ?_) (fun c => ?_)
  · rw [if_pos c] at h
    obtain ⟨g2, h⟩ := jgd_some h
    obtain ⟨g4, h⟩ := jgd_some h
    obtain ⟨m3, hm3, h⟩ := jpu_some h
    replace hf := jfr_tr hf (jfr_up hm3 (jhW (off := 0) g4 rfl rfl))
    obtain ⟨u5, m6, zm6, h⟩ := jbd_some h
    replace hf := jfr_tr hf (jfr_sub (W := W_R_pend) rfl (fr_R_pend zm6))
    obtain ⟨u7, m8, zm8, h⟩ := jbd_some h
    replace hf := jfr_tr hf (jfr_sub (W := W_R_stepTo) rfl (fr_R_stepTo zm8))
    cases h
    exact hf
  · rw [if_neg c] at h
    obtain ⟨u9, m10, zm10, h⟩ := jbd_some h
    replace hf := jfr_tr hf (jfr_sub (W := W_R_fail) rfl (fr_R_fail zm10))
    cases h
    exact hf

def W_R_takeJoint : List (Nat × Nat) := [(3, 11), (3, 12), (9, 0), (10, 0), (12, 11), (12, 12), (18, 0), (19, 0), (21, 2), (21, 3), (21, 4), (21, 5), (21, 6), (21, 9), (21, 12), (21, 13), (22, 0), (23, 0)]
theorem fr_R_takeJoint {m : jMem} {r : (Unit × jMem)} (h : f_R_takeJoint m = some r) : jfr W_R_takeJoint m r.2 := by
  unfold f_R_takeJoint at h
  have hf : jfr W_R_takeJoint m m := jfr_rf
  obtain ⟨g, h⟩ := jgd_some h
  obtain ⟨x1, ex1, h⟩ := jlt_some h
  refine jem_ne (p := x1 = (4 : Int32)) (fun c => ?_) (fun c => ?_)
  · rw [if_neg c] at h
    refine jem (p := (0 : Int32) = 0) (fun c => ?_) (fun c => ?_)
    · rw [if_pos c] at h
      obtain ⟨g, h⟩ := jgd_some h
      obtain ⟨x2, ex2, h⟩ := jlt_some h
      refine jem (p := (4 : Int32) < x2) (fun c => ?_) (fun c => ?_)
      · rw [if_pos c] at h
        obtain ⟨g, h⟩ := jgd_some h
        obtain ⟨x3, ex3, h⟩ := jlt_some h
        refine jem (p := (4 : Int32) ≤ x3) (fun c => ?_) (fun c => ?_)
        · rw [if_pos c] at h
          obtain ⟨m4, hm4, h⟩ := jpu_some h
          replace hf := jfr_tr hf (jfr_up hm4 rfl)
          obtain ⟨m5, hm5, h⟩ := jpu_some h
          replace hf := jfr_tr hf (jfr_up hm5 rfl)
          obtain ⟨g, h⟩ := jgd_some h
          obtain ⟨x6, ex6, h⟩ := jlt_some h
          obtain ⟨u7, m8, zm8, h⟩ := jbd_some h
          replace hf := jfr_tr hf (jfr_sub (W := W_R_settle) rfl (fr_R_settle zm8))
          obtain ⟨u9, m10, zm10, h⟩ := jbd_some h
          replace hf := jfr_tr hf (jfr_sub (W := W_R_takePending) rfl (fr_R_takePending zm10))
          cases h
          exact hf
        · rw [if_neg c] at h
          obtain ⟨m11, hm11, h⟩ := jpu_some h
          replace hf := jfr_tr hf (jfr_up hm11 rfl)
          obtain ⟨m12, hm12, h⟩ := jpu_some h
          replace hf := jfr_tr hf (jfr_up hm12 rfl)
          obtain ⟨g, h⟩ := jgd_some h
          obtain ⟨x13, ex13, h⟩ := jlt_some h
          obtain ⟨u14, m15, zm15, h⟩ := jbd_some h
          replace hf := jfr_tr hf (jfr_sub (W := W_R_settle) rfl (fr_R_settle zm15))
          obtain ⟨u16, m17, zm17, h⟩ := jbd_some h
          replace hf := jfr_tr hf (jfr_sub (W := W_R_takePending) rfl (fr_R_takePending zm17))
          cases h
          exact hf
      · rw [if_neg c] at h
        obtain ⟨m18, hm18, g, h⟩ := jst_some h
        replace hf := jfr_tr hf (jfr_ua hm18 rfl)
        obtain ⟨g, h⟩ := jgd_some h
        obtain ⟨x19, ex19, h⟩ := jlt_some h
        refine jem (p := (4 : Int32) ≤ x19) (fun c => ?_) (fun c => ?_)
        · rw [if_pos c] at h
          obtain ⟨m20, hm20, h⟩ := jpu_some h
          replace hf := jfr_tr hf (jfr_up hm20 rfl)
          obtain ⟨m21, hm21, h⟩ := jpu_some h
          replace hf := jfr_tr hf (jfr_up hm21 rfl)
          obtain ⟨g, h⟩ := jgd_some h
          obtain ⟨x22, ex22, h⟩ := jlt_some h
          obtain ⟨u23, m24, zm24, h⟩ := jbd_some h
          replace hf := jfr_tr hf (jfr_sub (W := W_R_settle) rfl (fr_R_settle zm24))
          obtain ⟨u25, m26, zm26, h⟩ := jbd_some h
          replace hf := jfr_tr hf (jfr_sub (W := W_R_takePending) rfl (fr_R_takePending zm26))
          cases h
          exact hf
        · rw [if_neg c] at h
          obtain ⟨m27, hm27, h⟩ := jpu_some h
          replace hf := jfr_tr hf (jfr_up hm27 rfl)
          obtain ⟨m28, hm28, h⟩ := jpu_some h
          replace hf := jfr_tr hf (jfr_up hm28 rfl)
          obtain ⟨g, h⟩ := jgd_some h
          obtain ⟨x29, ex29, h⟩ := jlt_some h
          obtain ⟨u30, m31, zm31, h⟩ := jbd_some h
          replace hf := jfr_tr hf (jfr_sub (W := W_R_settle) rfl (fr_R_settle zm31))
          obtain ⟨u32, m33, zm33, h⟩ := jbd_some h
          replace hf := jfr_tr hf (jfr_sub (W := W_R_takePending) rfl (fr_R_takePending zm33))
          cases h
          exact hf
    · rw [if_neg c] at h
      obtain ⟨x34, ex34, g, h⟩ := jld_some h
      refine jem (p := x34 = 0) (fun c => ?_) (fun c => ?_)
      · rw [if_pos c] at h
        obtain ⟨g, h⟩ := jgd_some h
        obtain ⟨x35, ex35, h⟩ := jlt_some h
        refine jem (p := (4 : Int32) < x35) (fun c => ?_) (fun c => ?_)
        · rw [if_pos c] at h
          obtain ⟨g, h⟩ := jgd_some h
          obtain ⟨x36, ex36, h⟩ := jlt_some h
          refine jem (p := (4 : Int32) ≤ x36) (fun c => ?_) (fun c => ?_)
          · rw [if_pos c] at h
            obtain ⟨m37, hm37, h⟩ := jpu_some h
            replace hf := jfr_tr hf (jfr_up hm37 rfl)
            obtain ⟨m38, hm38, h⟩ := jpu_some h
            replace hf := jfr_tr hf (jfr_up hm38 rfl)
            obtain ⟨g, h⟩ := jgd_some h
            obtain ⟨x39, ex39, h⟩ := jlt_some h
            obtain ⟨u40, m41, zm41, h⟩ := jbd_some h
            replace hf := jfr_tr hf (jfr_sub (W := W_R_settle) rfl (fr_R_settle zm41))
            obtain ⟨u42, m43, zm43, h⟩ := jbd_some h
            replace hf := jfr_tr hf (jfr_sub (W := W_R_takePending) rfl (fr_R_takePending zm43))
            cases h
            exact hf
          · rw [if_neg c] at h
            obtain ⟨m44, hm44, h⟩ := jpu_some h
            replace hf := jfr_tr hf (jfr_up hm44 rfl)
            obtain ⟨m45, hm45, h⟩ := jpu_some h
            replace hf := jfr_tr hf (jfr_up hm45 rfl)
            obtain ⟨g, h⟩ := jgd_some h
            obtain ⟨x46, ex46, h⟩ := jlt_some h
            obtain ⟨u47, m48, zm48, h⟩ := jbd_some h
            replace hf := jfr_tr hf (jfr_sub (W := W_R_settle) rfl (fr_R_settle zm48))
            obtain ⟨u49, m50, zm50, h⟩ := jbd_some h
            replace hf := jfr_tr hf (jfr_sub (W := W_R_takePending) rfl (fr_R_takePending zm50))
            cases h
            exact hf
        · rw [if_neg c] at h
          obtain ⟨m51, hm51, g, h⟩ := jst_some h
          replace hf := jfr_tr hf (jfr_ua hm51 rfl)
          obtain ⟨g, h⟩ := jgd_some h
          obtain ⟨x52, ex52, h⟩ := jlt_some h
          refine jem (p := (4 : Int32) ≤ x52) (fun c => ?_) (fun c => ?_)
          · rw [if_pos c] at h
            obtain ⟨m53, hm53, h⟩ := jpu_some h
            replace hf := jfr_tr hf (jfr_up hm53 rfl)
            obtain ⟨m54, hm54, h⟩ := jpu_some h
            replace hf := jfr_tr hf (jfr_up hm54 rfl)
            obtain ⟨g, h⟩ := jgd_some h
            obtain ⟨x55, ex55, h⟩ := jlt_some h
            obtain ⟨u56, m57, zm57, h⟩ := jbd_some h
            replace hf := jfr_tr hf (jfr_sub (W := W_R_settle) rfl (fr_R_settle zm57))
            obtain ⟨u58, m59, zm59, h⟩ := jbd_some h
            replace hf := jfr_tr hf (jfr_sub (W := W_R_takePending) rfl (fr_R_takePending zm59))
            cases h
            exact hf
          · rw [if_neg c] at h
            obtain ⟨m60, hm60, h⟩ := jpu_some h
            replace hf := jfr_tr hf (jfr_up hm60 rfl)
            obtain ⟨m61, hm61, h⟩ := jpu_some h
            replace hf := jfr_tr hf (jfr_up hm61 rfl)
            obtain ⟨g, h⟩ := jgd_some h
            obtain ⟨x62, ex62, h⟩ := jlt_some h
            obtain ⟨u63, m64, zm64, h⟩ := jbd_some h
            replace hf := jfr_tr hf (jfr_sub (W := W_R_settle) rfl (fr_R_settle zm64))
            obtain ⟨u65, m66, zm66, h⟩ := jbd_some h
            replace hf := jfr_tr hf (jfr_sub (W := W_R_takePending) rfl (fr_R_takePending zm66))
            cases h
            exact hf
      · rw [if_neg c] at h
        obtain ⟨u67, m68, zm68, h⟩ := jbd_some h
        replace hf := jfr_tr hf (jfr_sub (W := W_R_fail) rfl (fr_R_fail zm68))
        cases h
        exact hf
  · rw [if_pos c] at h
    refine jem (p := (1 : Int32) = 0) (fun c => ?_) (fun c => ?_)
    · rw [if_pos c] at h
      obtain ⟨g, h⟩ := jgd_some h
      obtain ⟨x69, ex69, h⟩ := jlt_some h
      refine jem (p := (4 : Int32) < x69) (fun c => ?_) (fun c => ?_)
      · rw [if_pos c] at h
        obtain ⟨g, h⟩ := jgd_some h
        obtain ⟨x70, ex70, h⟩ := jlt_some h
        refine jem (p := (4 : Int32) ≤ x70) (fun c => ?_) (fun c => ?_)
        · rw [if_pos c] at h
          obtain ⟨m71, hm71, h⟩ := jpu_some h
          replace hf := jfr_tr hf (jfr_up hm71 rfl)
          obtain ⟨m72, hm72, h⟩ := jpu_some h
          replace hf := jfr_tr hf (jfr_up hm72 rfl)
          obtain ⟨g, h⟩ := jgd_some h
          obtain ⟨x73, ex73, h⟩ := jlt_some h
          obtain ⟨u74, m75, zm75, h⟩ := jbd_some h
          replace hf := jfr_tr hf (jfr_sub (W := W_R_settle) rfl (fr_R_settle zm75))
          obtain ⟨u76, m77, zm77, h⟩ := jbd_some h
          replace hf := jfr_tr hf (jfr_sub (W := W_R_takePending) rfl (fr_R_takePending zm77))
          cases h
          exact hf
        · rw [if_neg c] at h
          obtain ⟨m78, hm78, h⟩ := jpu_some h
          replace hf := jfr_tr hf (jfr_up hm78 rfl)
          obtain ⟨m79, hm79, h⟩ := jpu_some h
          replace hf := jfr_tr hf (jfr_up hm79 rfl)
          obtain ⟨g, h⟩ := jgd_some h
          obtain ⟨x80, ex80, h⟩ := jlt_some h
          obtain ⟨u81, m82, zm82, h⟩ := jbd_some h
          replace hf := jfr_tr hf (jfr_sub (W := W_R_settle) rfl (fr_R_settle zm82))
          obtain ⟨u83, m84, zm84, h⟩ := jbd_some h
          replace hf := jfr_tr hf (jfr_sub (W := W_R_takePending) rfl (fr_R_takePending zm84))
          cases h
          exact hf
      · rw [if_neg c] at h
        obtain ⟨m85, hm85, g, h⟩ := jst_some h
        replace hf := jfr_tr hf (jfr_ua hm85 rfl)
        obtain ⟨g, h⟩ := jgd_some h
        obtain ⟨x86, ex86, h⟩ := jlt_some h
        refine jem (p := (4 : Int32) ≤ x86) (fun c => ?_) (fun c => ?_)
        · rw [if_pos c] at h
          obtain ⟨m87, hm87, h⟩ := jpu_some h
          replace hf := jfr_tr hf (jfr_up hm87 rfl)
          obtain ⟨m88, hm88, h⟩ := jpu_some h
          replace hf := jfr_tr hf (jfr_up hm88 rfl)
          obtain ⟨g, h⟩ := jgd_some h
          obtain ⟨x89, ex89, h⟩ := jlt_some h
          obtain ⟨u90, m91, zm91, h⟩ := jbd_some h
          replace hf := jfr_tr hf (jfr_sub (W := W_R_settle) rfl (fr_R_settle zm91))
          obtain ⟨u92, m93, zm93, h⟩ := jbd_some h
          replace hf := jfr_tr hf (jfr_sub (W := W_R_takePending) rfl (fr_R_takePending zm93))
          cases h
          exact hf
        · rw [if_neg c] at h
          obtain ⟨m94, hm94, h⟩ := jpu_some h
          replace hf := jfr_tr hf (jfr_up hm94 rfl)
          obtain ⟨m95, hm95, h⟩ := jpu_some h
          replace hf := jfr_tr hf (jfr_up hm95 rfl)
          obtain ⟨g, h⟩ := jgd_some h
          obtain ⟨x96, ex96, h⟩ := jlt_some h
          obtain ⟨u97, m98, zm98, h⟩ := jbd_some h
          replace hf := jfr_tr hf (jfr_sub (W := W_R_settle) rfl (fr_R_settle zm98))
          obtain ⟨u99, m100, zm100, h⟩ := jbd_some h
          replace hf := jfr_tr hf (jfr_sub (W := W_R_takePending) rfl (fr_R_takePending zm100))
          cases h
          exact hf
    · rw [if_neg c] at h
      obtain ⟨x101, ex101, g, h⟩ := jld_some h
      refine jem (p := x101 = 0) (fun c => ?_) (fun c => ?_)
      · rw [if_pos c] at h
        obtain ⟨g, h⟩ := jgd_some h
        obtain ⟨x102, ex102, h⟩ := jlt_some h
        refine jem (p := (4 : Int32) < x102) (fun c => ?_) (fun c => ?_)
        · rw [if_pos c] at h
          obtain ⟨g, h⟩ := jgd_some h
          obtain ⟨x103, ex103, h⟩ := jlt_some h
          refine jem (p := (4 : Int32) ≤ x103) (fun c => ?_) (fun c => ?_)
          · rw [if_pos c] at h
            obtain ⟨m104, hm104, h⟩ := jpu_some h
            replace hf := jfr_tr hf (jfr_up hm104 rfl)
            obtain ⟨m105, hm105, h⟩ := jpu_some h
            replace hf := jfr_tr hf (jfr_up hm105 rfl)
            obtain ⟨g, h⟩ := jgd_some h
            obtain ⟨x106, ex106, h⟩ := jlt_some h
            obtain ⟨u107, m108, zm108, h⟩ := jbd_some h
            replace hf := jfr_tr hf (jfr_sub (W := W_R_settle) rfl (fr_R_settle zm108))
            obtain ⟨u109, m110, zm110, h⟩ := jbd_some h
            replace hf := jfr_tr hf (jfr_sub (W := W_R_takePending) rfl (fr_R_takePending zm110))
            cases h
            exact hf
          · rw [if_neg c] at h
            obtain ⟨m111, hm111, h⟩ := jpu_some h
            replace hf := jfr_tr hf (jfr_up hm111 rfl)
            obtain ⟨m112, hm112, h⟩ := jpu_some h
            replace hf := jfr_tr hf (jfr_up hm112 rfl)
            obtain ⟨g, h⟩ := jgd_some h
            obtain ⟨x113, ex113, h⟩ := jlt_some h
            obtain ⟨u114, m115, zm115, h⟩ := jbd_some h
            replace hf := jfr_tr hf (jfr_sub (W := W_R_settle) rfl (fr_R_settle zm115))
            obtain ⟨u116, m117, zm117, h⟩ := jbd_some h
            replace hf := jfr_tr hf (jfr_sub (W := W_R_takePending) rfl (fr_R_takePending zm117))
            cases h
            exact hf
        · rw [if_neg c] at h
          obtain ⟨m118, hm118, g, h⟩ := jst_some h
          replace hf := jfr_tr hf (jfr_ua hm118 rfl)
          obtain ⟨g, h⟩ := jgd_some h
          obtain ⟨x119, ex119, h⟩ := jlt_some h
          refine jem (p := (4 : Int32) ≤ x119) (fun c => ?_) (fun c => ?_)
          · rw [if_pos c] at h
            obtain ⟨m120, hm120, h⟩ := jpu_some h
            replace hf := jfr_tr hf (jfr_up hm120 rfl)
            obtain ⟨m121, hm121, h⟩ := jpu_some h
            replace hf := jfr_tr hf (jfr_up hm121 rfl)
            obtain ⟨g, h⟩ := jgd_some h
            obtain ⟨x122, ex122, h⟩ := jlt_some h
            obtain ⟨u123, m124, zm124, h⟩ := jbd_some h
            replace hf := jfr_tr hf (jfr_sub (W := W_R_settle) rfl (fr_R_settle zm124))
            obtain ⟨u125, m126, zm126, h⟩ := jbd_some h
            replace hf := jfr_tr hf (jfr_sub (W := W_R_takePending) rfl (fr_R_takePending zm126))
            cases h
            exact hf
          · rw [if_neg c] at h
            obtain ⟨m127, hm127, h⟩ := jpu_some h
            replace hf := jfr_tr hf (jfr_up hm127 rfl)
            obtain ⟨m128, hm128, h⟩ := jpu_some h
            replace hf := jfr_tr hf (jfr_up hm128 rfl)
            obtain ⟨g, h⟩ := jgd_some h
            obtain ⟨x129, ex129, h⟩ := jlt_some h
            obtain ⟨u130, m131, zm131, h⟩ := jbd_some h
            replace hf := jfr_tr hf (jfr_sub (W := W_R_settle) rfl (fr_R_settle zm131))
            obtain ⟨u132, m133, zm133, h⟩ := jbd_some h
            replace hf := jfr_tr hf (jfr_sub (W := W_R_takePending) rfl (fr_R_takePending zm133))
            cases h
            exact hf
      · rw [if_neg c] at h
        obtain ⟨u134, m135, zm135, h⟩ := jbd_some h
        replace hf := jfr_tr hf (jfr_sub (W := W_R_fail) rfl (fr_R_fail zm135))
        cases h
        exact hf

def W_R_openBracket : List (Nat × Nat) := [(21, 2), (21, 3), (21, 4), (21, 5), (21, 6), (21, 9), (21, 10), (21, 13), (22, 0), (23, 0)]
theorem fr_R_openBracket {m : jMem} {r : (Unit × jMem)} (h : f_R_openBracket m = some r) : jfr W_R_openBracket m r.2 := by
  unfold f_R_openBracket at h
  have hf : jfr W_R_openBracket m m := jfr_rf
  refine jem (p := (m 21 9) < (8 : Int32)) (fun c => ?_) (fun c => ?_)
  · rw [if_pos c] at h
    obtain ⟨m1, hm1, h⟩ := jpu_some h
    replace hf := jfr_tr hf (jfr_up hm1 rfl)
    obtain ⟨m2, hm2, g, h⟩ := jst_some h
    replace hf := jfr_tr hf (jfr_ua hm2 rfl)
    obtain ⟨m3, hm3, h⟩ := jpu_some h
    replace hf := jfr_tr hf (jfr_up hm3 rfl)
    obtain ⟨u4, m5, zm5, h⟩ := jbd_some h
    replace hf := jfr_tr hf (jfr_sub (W := W_R_pend) rfl (fr_R_pend zm5))
    obtain ⟨u6, m7, zm7, h⟩ := jbd_some h
    replace hf := jfr_tr hf (jfr_sub (W := W_R_stepTo) rfl (fr_R_stepTo zm7))
    cases h
    exact hf
  · rw [if_neg c] at h
    obtain ⟨u8, m9, zm9, h⟩ := jbd_some h
    replace hf := jfr_tr hf (jfr_sub (W := W_R_fail) rfl (fr_R_fail zm9))
    cases h
    exact hf

def W_R_takeValue : List (Nat × Nat) := [(3, 11), (3, 12), (9, 0), (10, 0), (12, 11), (12, 12), (18, 0), (19, 0), (21, 2), (21, 3), (21, 4), (21, 5), (21, 6), (21, 9), (21, 10), (21, 12), (21, 13), (22, 0), (23, 0)]
theorem fr_R_takeValue {m : jMem} {r : (Unit × jMem)} (h : f_R_takeValue m = some r) : jfr W_R_takeValue m r.2 := by
  unfold f_R_takeValue at h
  have hf : jfr W_R_takeValue m m := jfr_rf
  obtain ⟨g, h⟩ := jgd_some h
  refine jem (p := (m 21 2).toNatClampNeg = 1003) (fun c => ?_) (fun c => ?_)
  · rw [if_pos c] at h
    refine jem (p := (999 : Int32) < (m 21 3)) (fun c => ?_) (fun c => ?_)
    · rw [if_pos c] at h
      obtain ⟨u1, m2, zm2, h⟩ := jbd_some h
      replace hf := jfr_tr hf (jfr_sub (W := W_R_fail) rfl (fr_R_fail zm2))
      cases h
      exact hf
    · rw [if_neg c] at h
      obtain ⟨g3, h⟩ := jgd_some h
      refine jem (p := (m (m 21 6).toNatClampNeg 11) < (64 : Int32)) (fun c => ?_) (fun c => ?_)
      · rw [if_pos c] at h
        obtain ⟨g4, h⟩ := jgd_some h
        obtain ⟨g6, h⟩ := jgd_some h
        obtain ⟨m5, hm5, h⟩ := jpu_some h
        replace hf := jfr_tr hf (jfr_up hm5 (jhW (off := 0) g6 rfl rfl))
        obtain ⟨g9, h⟩ := jgd_some h
        obtain ⟨u7, m8, zm8, h⟩ := jbd_some h
        replace hf := jfr_tr hf (jfr_sub (W := W_H_addKnot) rfl (fr_H_addKnot g9 zm8))
        obtain ⟨m10, hm10, h⟩ := jpu_some h
        replace hf := jfr_tr hf (jfr_up hm10 rfl)
        obtain ⟨u11, m12, zm12, h⟩ := jbd_some h
        replace hf := jfr_tr hf (jfr_sub (W := W_R_stepTo) rfl (fr_R_stepTo zm12))
        cases h
        exact hf
      · rw [if_neg c] at h
        obtain ⟨u13, m14, zm14, h⟩ := jbd_some h
        replace hf := jfr_tr hf (jfr_sub (W := W_R_fail) rfl (fr_R_fail zm14))
        cases h
        exact hf
  · rw [if_neg c] at h
    obtain ⟨g, h⟩ := jgd_some h
    obtain ⟨x15, ex15, h⟩ := jlt_some h
    refine jem_ne (p := x15 = (2 : Int32)) (fun c => ?_) (fun c => ?_)
    · rw [if_neg c] at h
      obtain ⟨g, h⟩ := jgd_some h
      refine jem_ne (p := (m 21 2).toNatClampNeg = 1005) (fun c => ?_) (fun c => ?_)
      · rw [if_neg c] at h
        obtain ⟨g, h⟩ := jgd_some h
        refine jem_ne (p := (m 21 2).toNatClampNeg = 1025) (fun c => ?_) (fun c => ?_)
        · rw [if_neg c] at h
          obtain ⟨u16, m17, zm17, h⟩ := jbd_some h
          replace hf := jfr_tr hf (jfr_sub (W := W_R_fail) rfl (fr_R_fail zm17))
          cases h
          exact hf
        · rw [if_pos c] at h
          refine jem (p := (m 21 12) = 0) (fun c => ?_) (fun c => ?_)
          · rw [if_pos c] at h
            obtain ⟨u18, m19, zm19, h⟩ := jbd_some h
            replace hf := jfr_tr hf (jfr_sub (W := W_R_fail) rfl (fr_R_fail zm19))
            cases h
            exact hf
          · rw [if_neg c] at h
            obtain ⟨u20, m21, zm21, h⟩ := jbd_some h
            replace hf := jfr_tr hf (jfr_sub (W := W_R_takePending) rfl (fr_R_takePending zm21))
            cases h
            exact hf
      · rw [if_pos c] at h
        obtain ⟨u22, m23, zm23, h⟩ := jbd_some h
        replace hf := jfr_tr hf (jfr_sub (W := W_R_openBracket) rfl (fr_R_openBracket zm23))
        cases h
        exact hf
    · rw [if_pos c] at h
      refine jem (p := (999 : Int32) < (m 21 3)) (fun c => ?_) (fun c => ?_)
      · rw [if_pos c] at h
        obtain ⟨u24, m25, zm25, h⟩ := jbd_some h
        replace hf := jfr_tr hf (jfr_sub (W := W_R_fail) rfl (fr_R_fail zm25))
        cases h
        exact hf
      · rw [if_neg c] at h
        obtain ⟨g26, h⟩ := jgd_some h
        refine jem (p := (m (m 21 6).toNatClampNeg 11) < (64 : Int32)) (fun c => ?_) (fun c => ?_)
        · rw [if_pos c] at h
          obtain ⟨g27, h⟩ := jgd_some h
          obtain ⟨g29, h⟩ := jgd_some h
          obtain ⟨m28, hm28, h⟩ := jpu_some h
          replace hf := jfr_tr hf (jfr_up hm28 (jhW (off := 0) g29 rfl rfl))
          obtain ⟨g32, h⟩ := jgd_some h
          obtain ⟨u30, m31, zm31, h⟩ := jbd_some h
          replace hf := jfr_tr hf (jfr_sub (W := W_H_addKnot) rfl (fr_H_addKnot g32 zm31))
          obtain ⟨m33, hm33, h⟩ := jpu_some h
          replace hf := jfr_tr hf (jfr_up hm33 rfl)
          obtain ⟨u34, m35, zm35, h⟩ := jbd_some h
          replace hf := jfr_tr hf (jfr_sub (W := W_R_stepTo) rfl (fr_R_stepTo zm35))
          cases h
          exact hf
        · rw [if_neg c] at h
          obtain ⟨u36, m37, zm37, h⟩ := jbd_some h
          replace hf := jfr_tr hf (jfr_sub (W := W_R_fail) rfl (fr_R_fail zm37))
          cases h
          exact hf

def W_R_takeExpression : List (Nat × Nat) := [(3, 11), (3, 12), (9, 0), (10, 0), (12, 11), (12, 12), (18, 0), (19, 0), (21, 2), (21, 3), (21, 4), (21, 5), (21, 6), (21, 9), (21, 10), (21, 12), (21, 13), (22, 0), (23, 0)]
theorem fr_lp_R_takeExpression_29 {m0 : jMem} (k106 : jMem → Option (Unit × jMem))
    (hk106 : ∀ (m : jMem) (r : (Unit × jMem)), jfr W_R_takeExpression m0 m → k106 m = some r → jfr W_R_takeExpression m0 r.2) : ∀ (n : Nat) (v1 : Int32) (m : jMem) (r : (Unit × jMem)), jfr W_R_takeExpression m0 m → lp_R_takeExpression_29 k106 n v1 m = some r → jfr W_R_takeExpression m0 r.2 := by
  intro n
  induction n with
  | zero => intro v1 m r hf h; unfold lp_R_takeExpression_29 at h; cases h
  | succ n ih =>
    intro v1 m r hf h
    unfold lp_R_takeExpression_29 at h
    refine jem (p := (m 24 5) ≤ v1) (fun c => ?_) (fun c => ?_)
    · rw [if_pos c] at h
      exact hk106  m _ hf h
    · rw [if_neg c] at h
      refine jem_ne (p := (m 21 4) = 0) (fun c => ?_) (fun c => ?_)
      · rw [if_neg c] at h
        exact hk106  m _ hf h
      · rw [if_pos c] at h
        refine jem (p := (m 21 11) = 0) (fun c => ?_) (fun c => ?_)
        · rw [if_pos c] at h
          obtain ⟨g, h⟩ := jgd_some h
          refine jem_ne (p := (m 21 2).toNatClampNeg = 1006) (fun c => ?_) (fun c => ?_)
          · rw [if_neg c] at h
            obtain ⟨g, h⟩ := jgd_some h
            obtain ⟨x6, ex6, h⟩ := jlt_some h
            refine jem_ne (p := x6 = (3 : Int32)) (fun c => ?_) (fun c => ?_)
            · rw [if_neg c] at h
              exact hk106  m _ hf h
            · rw [if_pos c] at h
              obtain ⟨u7, m8, zm8, h⟩ := jbd_some h
              replace hf := jfr_tr hf (jfr_sub (W := W_R_takeJoint) rfl (fr_R_takeJoint zm8))
              exact ih (v1 + (1 : Int32)) m8 _ hf h
          · rw [if_pos c] at h
            refine jem (p := (m 21 9) ≤ 0) (fun c => ?_) (fun c => ?_)
            · rw [if_pos c] at h
              obtain ⟨g, h⟩ := jgd_some h
              obtain ⟨x9, ex9, h⟩ := jlt_some h
              refine jem_ne (p := x9 = (3 : Int32)) (fun c => ?_) (fun c => ?_)
              · rw [if_neg c] at h
                exact hk106  m _ hf h
              · rw [if_pos c] at h
                obtain ⟨u10, m11, zm11, h⟩ := jbd_some h
                replace hf := jfr_tr hf (jfr_sub (W := W_R_takeJoint) rfl (fr_R_takeJoint zm11))
                exact ih (v1 + (1 : Int32)) m11 _ hf h
            · rw [if_neg c] at h
              obtain ⟨u12, m13, zm13, h⟩ := jbd_some h
              replace hf := jfr_tr hf (jfr_sub (W := W_R_closeBracket) rfl (fr_R_closeBracket zm13))
              exact ih (v1 + (1 : Int32)) m13 _ hf h
        · rw [if_neg c] at h
          obtain ⟨u14, m15, zm15, h⟩ := jbd_some h
          replace hf := jfr_tr hf (jfr_sub (W := W_R_takeValue) rfl (fr_R_takeValue zm15))
          exact ih (v1 + (1 : Int32)) m15 _ hf h
theorem fr_R_takeExpression {m : jMem} {r : (Unit × jMem)} (h : f_R_takeExpression m = some r) : jfr W_R_takeExpression m r.2 := by
  unfold f_R_takeExpression at h
  have hf : jfr W_R_takeExpression m m := jfr_rf
  obtain ⟨m1, hm1, h⟩ := jpu_some h
  replace hf := jfr_tr hf (jfr_up hm1 rfl)
  obtain ⟨m2, hm2, h⟩ := jpu_some h
  replace hf := jfr_tr hf (jfr_up hm2 rfl)
  obtain ⟨m3, hm3, g, h⟩ := jst_some h
  replace hf := jfr_tr hf (jfr_ua hm3 rfl)
  obtain ⟨m4, hm4, h⟩ := jpu_some h
  replace hf := jfr_tr hf (jfr_up hm4 rfl)
  obtain ⟨m5, hm5, h⟩ := jpu_some h
  replace hf := jfr_tr hf (jfr_up hm5 rfl)
  refine fr_lp_R_takeExpression_29 _ ?_ _ (0 : Int32) m5 _ hf h
  intro m16 r hf h
  refine jem_ne (p := (m16 21 4) = 0) (fun c => ?_) (fun c => ?_)
  · rw [if_neg c] at h
    obtain ⟨u17, m18, zm18, h⟩ := jbd_some h
    replace hf := jfr_tr hf (jfr_sub (W := W_R_settle) rfl (fr_R_settle zm18))
    cases h
    exact hf
  · rw [if_pos c] at h
    refine jem (p := (m16 21 9) ≤ 0) (fun c => ?_) (fun c => ?_)
    · rw [if_pos c] at h
      obtain ⟨u19, m20, zm20, h⟩ := jbd_some h
      replace hf := jfr_tr hf (jfr_sub (W := W_R_settle) rfl (fr_R_settle zm20))
      cases h
      exact hf
    · rw [if_neg c] at h
      obtain ⟨u21, m22, zm22, h⟩ := jbd_some h
      replace hf := jfr_tr hf (jfr_sub (W := W_R_fail) rfl (fr_R_fail zm22))
      obtain ⟨u23, m24, zm24, h⟩ := jbd_some h
      replace hf := jfr_tr hf (jfr_sub (W := W_R_settle) rfl (fr_R_settle zm24))
      cases h
      exact hf

def W_R_takeHabit : List (Nat × Nat) := [(3, 3), (3, 8), (3, 11), (3, 12), (5, 0), (6, 0), (7, 0), (8, 0), (9, 0), (10, 0), (12, 3), (12, 8), (12, 11), (12, 12), (14, 0), (15, 0), (16, 0), (17, 0), (18, 0), (19, 0), (21, 2), (21, 3), (21, 4), (21, 5), (21, 6), (21, 9), (21, 10), (21, 12), (21, 13), (22, 0), (23, 0)]
theorem fr_R_takeHabit {m : jMem} {r : (Unit × jMem)} (h : f_R_takeHabit m = some r) : jfr W_R_takeHabit m r.2 := by
  unfold f_R_takeHabit at h
  have hf : jfr W_R_takeHabit m m := jfr_rf
  obtain ⟨g, h⟩ := jgd_some h
  refine jem_ne (p := (m 21 2).toNatClampNeg = 1009) (fun c => ?_) (fun c => ?_)
  · rw [if_neg c] at h
    obtain ⟨g1, h⟩ := jgd_some h
    refine jem (p := (m (m 21 6).toNatClampNeg 7) < (8 : Int32)) (fun c => ?_) (fun c => ?_)
    · rw [if_pos c] at h
      obtain ⟨g2, h⟩ := jgd_some h
      obtain ⟨u3, m4, zm4, h⟩ := jbd_some h
      replace hf := jfr_tr hf (jfr_sub (W := W_R_stepTo) rfl (fr_R_stepTo zm4))
      obtain ⟨u5, m6, zm6, h⟩ := jbd_some h
      replace hf := jfr_tr hf (jfr_sub (W := W_R_takeExpression) rfl (fr_R_takeExpression zm6))
      refine jem_ne (p := (m6 21 4) = 0) (fun c => ?_) (fun c => ?_)
      · rw [if_neg c] at h
        refine jem (p := (m6 21 4) = 0) (fun c => ?_) (fun c => ?_)
        · rw [if_pos c] at h
          obtain ⟨g, h⟩ := jgd_some h
          refine jem (p := (m6 21 2).toNatClampNeg = 1004) (fun c => ?_) (fun c => ?_)
          · rw [if_pos c] at h
            refine jem_ne (p := (0 : Int32) = 0) (fun c => ?_) (fun c => ?_)
            · rw [if_neg c] at h
              obtain ⟨g9, h⟩ := jgd_some h
              obtain ⟨u7, m8, zm8, h⟩ := jbd_some h
              replace hf := jfr_tr hf (jfr_sub (W := W_H_addHabit) rfl (fr_H_addHabit g9 zm8))
              obtain ⟨u10, m11, zm11, h⟩ := jbd_some h
              replace hf := jfr_tr hf (jfr_sub (W := W_R_stepTo) rfl (fr_R_stepTo zm11))
              cases h
              exact hf
            · rw [if_pos c] at h
              obtain ⟨g14, h⟩ := jgd_some h
              obtain ⟨u12, m13, zm13, h⟩ := jbd_some h
              replace hf := jfr_tr hf (jfr_sub (W := W_H_addHabit) rfl (fr_H_addHabit g14 zm13))
              obtain ⟨u15, m16, zm16, h⟩ := jbd_some h
              replace hf := jfr_tr hf (jfr_sub (W := W_R_stepTo) rfl (fr_R_stepTo zm16))
              cases h
              exact hf
          · rw [if_neg c] at h
            obtain ⟨u17, m18, zm18, h⟩ := jbd_some h
            replace hf := jfr_tr hf (jfr_sub (W := W_R_fail) rfl (fr_R_fail zm18))
            cases h
            exact hf
        · rw [if_neg c] at h
          cases h
          exact hf
      · rw [if_pos c] at h
        obtain ⟨x19, m20, zm20, h⟩ := jbd_some h
        replace hf := jfr_tr hf (jfr_sub (W := W_R_takeBy) rfl (fr_R_takeBy zm20))
        refine jem (p := (m20 21 4) = 0) (fun c => ?_) (fun c => ?_)
        · rw [if_pos c] at h
          obtain ⟨g, h⟩ := jgd_some h
          refine jem (p := (m20 21 2).toNatClampNeg = 1004) (fun c => ?_) (fun c => ?_)
          · rw [if_pos c] at h
            refine jem_ne (p := x19 = 0) (fun c => ?_) (fun c => ?_)
            · rw [if_neg c] at h
              obtain ⟨g23, h⟩ := jgd_some h
              obtain ⟨u21, m22, zm22, h⟩ := jbd_some h
              replace hf := jfr_tr hf (jfr_sub (W := W_H_addHabit) rfl (fr_H_addHabit g23 zm22))
              obtain ⟨u24, m25, zm25, h⟩ := jbd_some h
              replace hf := jfr_tr hf (jfr_sub (W := W_R_stepTo) rfl (fr_R_stepTo zm25))
              cases h
              exact hf
            · rw [if_pos c] at h
              obtain ⟨g28, h⟩ := jgd_some h
              obtain ⟨u26, m27, zm27, h⟩ := jbd_some h
              replace hf := jfr_tr hf (jfr_sub (W := W_H_addHabit) rfl (fr_H_addHabit g28 zm27))
              obtain ⟨u29, m30, zm30, h⟩ := jbd_some h
              replace hf := jfr_tr hf (jfr_sub (W := W_R_stepTo) rfl (fr_R_stepTo zm30))
              cases h
              exact hf
          · rw [if_neg c] at h
            obtain ⟨u31, m32, zm32, h⟩ := jbd_some h
            replace hf := jfr_tr hf (jfr_sub (W := W_R_fail) rfl (fr_R_fail zm32))
            cases h
            exact hf
        · rw [if_neg c] at h
          cases h
          exact hf
    · rw [if_neg c] at h
      obtain ⟨u33, m34, zm34, h⟩ := jbd_some h
      replace hf := jfr_tr hf (jfr_sub (W := W_R_fail) rfl (fr_R_fail zm34))
      cases h
      exact hf
  · rw [if_pos c] at h
    obtain ⟨g35, h⟩ := jgd_some h
    refine jem (p := (m (m 21 6).toNatClampNeg 7) < (8 : Int32)) (fun c => ?_) (fun c => ?_)
    · rw [if_pos c] at h
      obtain ⟨g36, h⟩ := jgd_some h
      obtain ⟨u37, m38, zm38, h⟩ := jbd_some h
      replace hf := jfr_tr hf (jfr_sub (W := W_R_stepTo) rfl (fr_R_stepTo zm38))
      obtain ⟨u39, m40, zm40, h⟩ := jbd_some h
      replace hf := jfr_tr hf (jfr_sub (W := W_R_takeExpression) rfl (fr_R_takeExpression zm40))
      refine jem_ne (p := (m40 21 4) = 0) (fun c => ?_) (fun c => ?_)
      · rw [if_neg c] at h
        refine jem (p := (m40 21 4) = 0) (fun c => ?_) (fun c => ?_)
        · rw [if_pos c] at h
          obtain ⟨g, h⟩ := jgd_some h
          refine jem (p := (m40 21 2).toNatClampNeg = 1004) (fun c => ?_) (fun c => ?_)
          · rw [if_pos c] at h
            refine jem_ne (p := (0 : Int32) = 0) (fun c => ?_) (fun c => ?_)
            · rw [if_neg c] at h
              obtain ⟨g43, h⟩ := jgd_some h
              obtain ⟨u41, m42, zm42, h⟩ := jbd_some h
              replace hf := jfr_tr hf (jfr_sub (W := W_H_addHabit) rfl (fr_H_addHabit g43 zm42))
              obtain ⟨u44, m45, zm45, h⟩ := jbd_some h
              replace hf := jfr_tr hf (jfr_sub (W := W_R_stepTo) rfl (fr_R_stepTo zm45))
              cases h
              exact hf
            · rw [if_pos c] at h
              obtain ⟨g48, h⟩ := jgd_some h
              obtain ⟨u46, m47, zm47, h⟩ := jbd_some h
              replace hf := jfr_tr hf (jfr_sub (W := W_H_addHabit) rfl (fr_H_addHabit g48 zm47))
              obtain ⟨u49, m50, zm50, h⟩ := jbd_some h
              replace hf := jfr_tr hf (jfr_sub (W := W_R_stepTo) rfl (fr_R_stepTo zm50))
              cases h
              exact hf
          · rw [if_neg c] at h
            obtain ⟨u51, m52, zm52, h⟩ := jbd_some h
            replace hf := jfr_tr hf (jfr_sub (W := W_R_fail) rfl (fr_R_fail zm52))
            cases h
            exact hf
        · rw [if_neg c] at h
          cases h
          exact hf
      · rw [if_pos c] at h
        obtain ⟨x53, m54, zm54, h⟩ := jbd_some h
        replace hf := jfr_tr hf (jfr_sub (W := W_R_takeBy) rfl (fr_R_takeBy zm54))
        refine jem (p := (m54 21 4) = 0) (fun c => ?_) (fun c => ?_)
        · rw [if_pos c] at h
          obtain ⟨g, h⟩ := jgd_some h
          refine jem (p := (m54 21 2).toNatClampNeg = 1004) (fun c => ?_) (fun c => ?_)
          · rw [if_pos c] at h
            refine jem_ne (p := x53 = 0) (fun c => ?_) (fun c => ?_)
            · rw [if_neg c] at h
              obtain ⟨g57, h⟩ := jgd_some h
              obtain ⟨u55, m56, zm56, h⟩ := jbd_some h
              replace hf := jfr_tr hf (jfr_sub (W := W_H_addHabit) rfl (fr_H_addHabit g57 zm56))
              obtain ⟨u58, m59, zm59, h⟩ := jbd_some h
              replace hf := jfr_tr hf (jfr_sub (W := W_R_stepTo) rfl (fr_R_stepTo zm59))
              cases h
              exact hf
            · rw [if_pos c] at h
              obtain ⟨g62, h⟩ := jgd_some h
              obtain ⟨u60, m61, zm61, h⟩ := jbd_some h
              replace hf := jfr_tr hf (jfr_sub (W := W_H_addHabit) rfl (fr_H_addHabit g62 zm61))
              obtain ⟨u63, m64, zm64, h⟩ := jbd_some h
              replace hf := jfr_tr hf (jfr_sub (W := W_R_stepTo) rfl (fr_R_stepTo zm64))
              cases h
              exact hf
          · rw [if_neg c] at h
            obtain ⟨u65, m66, zm66, h⟩ := jbd_some h
            replace hf := jfr_tr hf (jfr_sub (W := W_R_fail) rfl (fr_R_fail zm66))
            cases h
            exact hf
        · rw [if_neg c] at h
          cases h
          exact hf
    · rw [if_neg c] at h
      obtain ⟨u67, m68, zm68, h⟩ := jbd_some h
      replace hf := jfr_tr hf (jfr_sub (W := W_R_fail) rfl (fr_R_fail zm68))
      cases h
      exact hf

def W_H_addRule : List (Nat × Nat) := [(3, 2), (3, 3), (4, 0), (12, 2), (12, 3), (13, 0)]
theorem fr_lp_H_addRule_2 {m0 : jMem} {hb : Nat} (hh : jhok hb) (v1 : Nat) (v2 : Int32) (k29 : jMem → Option (Unit × jMem))
    (hk29 : ∀ (m : jMem) (r : (Unit × jMem)), jfr W_H_addRule m0 m → k29 m = some r → jfr W_H_addRule m0 r.2) : ∀ (n : Nat) (v3 : Int32) (m : jMem) (r : (Unit × jMem)), jfr W_H_addRule m0 m → lp_H_addRule_2 hb v1 v2 k29 n v3 m = some r → jfr W_H_addRule m0 r.2 := by
  intro n
  induction n with
  | zero => intro v3 m r hf h; unfold lp_H_addRule_2 at h; cases h
  | succ n ih =>
    intro v3 m r hf h
    unfold lp_H_addRule_2 at h
    refine jem (p := (6 : Int32) ≤ v3) (fun c => ?_) (fun c => ?_)
    · rw [if_pos c] at h
      exact hk29  m _ hf h
    · rw [if_neg c] at h
      obtain ⟨x1, m2, zm2, h⟩ := jbd_some h
      replace hf := jfr_tr hf (jfr_sub (W := W_C_isIn) rfl (fr_C_isIn zm2))
      refine jem (p := x1 = 0) (fun c => ?_) (fun c => ?_)
      · rw [if_pos c] at h
        exact ih (v3 + (1 : Int32)) m2 _ hf h
      · rw [if_neg c] at h
        obtain ⟨gt, h⟩ := jgd_some h
        obtain ⟨m3, hm3, g, h⟩ := jst_some h
        replace hf := jfr_tr hf (jfr_ua hm3 (jhW (off := 1) hh rfl rfl))
        exact ih (v3 + (1 : Int32)) m3 _ hf h
theorem fr_H_addRule {hb : Nat} (hh : jhok hb) {v1 : Nat} {v2 : Int32} {m : jMem} {r : (Unit × jMem)} (h : f_H_addRule hb v1 v2 m = some r) : jfr W_H_addRule m r.2 := by
  unfold f_H_addRule at h
  have hf : jfr W_H_addRule m m := jfr_rf
  refine fr_lp_H_addRule_2 hh v1 v2 _ ?_ _ (0 : Int32) m _ hf h
  intro m4 r hf h
  obtain ⟨m5, hm5, h⟩ := jpu_some h
  replace hf := jfr_tr hf (jfr_up hm5 (jhW (off := 0) hh rfl rfl))
  obtain ⟨m6, hm6, h⟩ := jpu_some h
  replace hf := jfr_tr hf (jfr_up hm6 (jhW (off := 0) hh rfl rfl))
  cases h
  exact hf

def W_R_takeRule : List (Nat × Nat) := [(3, 2), (3, 3), (4, 0), (12, 2), (12, 3), (13, 0), (21, 2), (21, 3), (21, 4), (21, 5), (21, 6)]
theorem fr_R_takeRule {m : jMem} {r : (Unit × jMem)} (h : f_R_takeRule m = some r) : jfr W_R_takeRule m r.2 := by
  unfold f_R_takeRule at h
  have hf : jfr W_R_takeRule m m := jfr_rf
  obtain ⟨u1, m2, zm2, h⟩ := jbd_some h
  replace hf := jfr_tr hf (jfr_sub (W := W_R_stepTo) rfl (fr_R_stepTo zm2))
  obtain ⟨g, h⟩ := jgd_some h
  obtain ⟨x3, ex3, h⟩ := jlt_some h
  refine jem (p := x3 = (1 : Int32)) (fun c => ?_) (fun c => ?_)
  · rw [if_pos c] at h
    obtain ⟨u4, m5, zm5, h⟩ := jbd_some h
    replace hf := jfr_tr hf (jfr_sub (W := W_R_stepTo) rfl (fr_R_stepTo zm5))
    obtain ⟨g6, h⟩ := jgd_some h
    obtain ⟨x7, m8, zm8, h⟩ := jbd_some h
    replace hf := jfr_tr hf (jfr_sub (W := W_R_takeWriters) rfl (fr_R_takeWriters zm8))
    refine jem (p := (m8 21 4) = 0) (fun c => ?_) (fun c => ?_)
    · rw [if_pos c] at h
      obtain ⟨g, h⟩ := jgd_some h
      refine jem (p := (m8 21 2).toNatClampNeg = 1004) (fun c => ?_) (fun c => ?_)
      · rw [if_pos c] at h
        refine jem_ne (p := x7 = 0) (fun c => ?_) (fun c => ?_)
        · rw [if_neg c] at h
          refine jem_ne (p := x7 = 0) (fun c => ?_) (fun c => ?_)
          · rw [if_neg c] at h
            obtain ⟨g11, h⟩ := jgd_some h
            obtain ⟨u9, m10, zm10, h⟩ := jbd_some h
            replace hf := jfr_tr hf (jfr_sub (W := W_H_addRule) rfl (fr_H_addRule g11 zm10))
            obtain ⟨u12, m13, zm13, h⟩ := jbd_some h
            replace hf := jfr_tr hf (jfr_sub (W := W_R_stepTo) rfl (fr_R_stepTo zm13))
            cases h
            exact hf
          · rw [if_pos c] at h
            obtain ⟨g16, h⟩ := jgd_some h
            obtain ⟨u14, m15, zm15, h⟩ := jbd_some h
            replace hf := jfr_tr hf (jfr_sub (W := W_H_addRule) rfl (fr_H_addRule g16 zm15))
            obtain ⟨u17, m18, zm18, h⟩ := jbd_some h
            replace hf := jfr_tr hf (jfr_sub (W := W_R_stepTo) rfl (fr_R_stepTo zm18))
            cases h
            exact hf
        · rw [if_pos c] at h
          obtain ⟨g19, h⟩ := jgd_some h
          refine jem (p := (m8 (m8 21 6).toNatClampNeg 1) = 0) (fun c => ?_) (fun c => ?_)
          · rw [if_pos c] at h
            refine jem_ne (p := x7 = 0) (fun c => ?_) (fun c => ?_)
            · rw [if_neg c] at h
              obtain ⟨g22, h⟩ := jgd_some h
              obtain ⟨u20, m21, zm21, h⟩ := jbd_some h
              replace hf := jfr_tr hf (jfr_sub (W := W_H_addRule) rfl (fr_H_addRule g22 zm21))
              obtain ⟨u23, m24, zm24, h⟩ := jbd_some h
              replace hf := jfr_tr hf (jfr_sub (W := W_R_stepTo) rfl (fr_R_stepTo zm24))
              cases h
              exact hf
            · rw [if_pos c] at h
              obtain ⟨g27, h⟩ := jgd_some h
              obtain ⟨u25, m26, zm26, h⟩ := jbd_some h
              replace hf := jfr_tr hf (jfr_sub (W := W_H_addRule) rfl (fr_H_addRule g27 zm26))
              obtain ⟨u28, m29, zm29, h⟩ := jbd_some h
              replace hf := jfr_tr hf (jfr_sub (W := W_R_stepTo) rfl (fr_R_stepTo zm29))
              cases h
              exact hf
          · rw [if_neg c] at h
            obtain ⟨u30, m31, zm31, h⟩ := jbd_some h
            replace hf := jfr_tr hf (jfr_sub (W := W_R_fail) rfl (fr_R_fail zm31))
            cases h
            exact hf
      · rw [if_neg c] at h
        obtain ⟨u32, m33, zm33, h⟩ := jbd_some h
        replace hf := jfr_tr hf (jfr_sub (W := W_R_fail) rfl (fr_R_fail zm33))
        cases h
        exact hf
    · rw [if_neg c] at h
      cases h
      exact hf
  · rw [if_neg c] at h
    obtain ⟨u34, m35, zm35, h⟩ := jbd_some h
    replace hf := jfr_tr hf (jfr_sub (W := W_R_fail) rfl (fr_R_fail zm35))
    cases h
    exact hf

def W_R_takes : List (Nat × Nat) := [(3, 2), (3, 3), (3, 8), (3, 11), (3, 12), (4, 0), (5, 0), (6, 0), (7, 0), (8, 0), (9, 0), (10, 0), (12, 2), (12, 3), (12, 8), (12, 11), (12, 12), (13, 0), (14, 0), (15, 0), (16, 0), (17, 0), (18, 0), (19, 0), (21, 2), (21, 3), (21, 4), (21, 5), (21, 6), (21, 7), (21, 9), (21, 10), (21, 12), (21, 13), (22, 0), (23, 0), (24, 2), (24, 6), (25, 0), (26, 0), (27, 0)]
theorem fr_lp_R_takes_37 {m0 : jMem} (k120 : jMem → Option (Int32 × jMem))
    (hk120 : ∀ (m : jMem) (r : (Int32 × jMem)), jfr W_R_takes m0 m → k120 m = some r → jfr W_R_takes m0 r.2) : ∀ (n : Nat) (v3 : Int32) (m : jMem) (r : (Int32 × jMem)), jfr W_R_takes m0 m → lp_R_takes_37 k120 n v3 m = some r → jfr W_R_takes m0 r.2 := by
  intro n
  induction n with
  | zero => intro v3 m r hf h; unfold lp_R_takes_37 at h; cases h
  | succ n ih =>
    intro v3 m r hf h
    unfold lp_R_takes_37 at h
    refine jem (p := (m 24 5) ≤ v3) (fun c => ?_) (fun c => ?_)
    · rw [if_pos c] at h
      exact hk120  m _ hf h
    · rw [if_neg c] at h
      refine jem_ne (p := (m 21 4) = 0) (fun c => ?_) (fun c => ?_)
      · rw [if_neg c] at h
        exact hk120  m _ hf h
      · rw [if_pos c] at h
        obtain ⟨g, h⟩ := jgd_some h
        refine jem (p := (m 21 2).toNatClampNeg = 1001) (fun c => ?_) (fun c => ?_)
        · rw [if_pos c] at h
          exact hk120  m _ hf h
        · rw [if_neg c] at h
          obtain ⟨g, h⟩ := jgd_some h
          refine jem_ne (p := (m 21 2).toNatClampNeg = 1007) (fun c => ?_) (fun c => ?_)
          · rw [if_neg c] at h
            obtain ⟨g, h⟩ := jgd_some h
            refine jem (p := (m 21 2).toNatClampNeg = 1008) (fun c => ?_) (fun c => ?_)
            · rw [if_pos c] at h
              obtain ⟨u12, m13, zm13, h⟩ := jbd_some h
              replace hf := jfr_tr hf (jfr_sub (W := W_R_takeHabit) rfl (fr_R_takeHabit zm13))
              exact ih (v3 + (1 : Int32)) m13 _ hf h
            · rw [if_neg c] at h
              obtain ⟨g, h⟩ := jgd_some h
              refine jem_ne (p := (m 21 2).toNatClampNeg = 1009) (fun c => ?_) (fun c => ?_)
              · rw [if_neg c] at h
                obtain ⟨u14, m15, zm15, h⟩ := jbd_some h
                replace hf := jfr_tr hf (jfr_sub (W := W_R_fail) rfl (fr_R_fail zm15))
                exact ih (v3 + (1 : Int32)) m15 _ hf h
              · rw [if_pos c] at h
                obtain ⟨u16, m17, zm17, h⟩ := jbd_some h
                replace hf := jfr_tr hf (jfr_sub (W := W_R_takeHabit) rfl (fr_R_takeHabit zm17))
                exact ih (v3 + (1 : Int32)) m17 _ hf h
          · rw [if_pos c] at h
            obtain ⟨u18, m19, zm19, h⟩ := jbd_some h
            replace hf := jfr_tr hf (jfr_sub (W := W_R_takeRule) rfl (fr_R_takeRule zm19))
            exact ih (v3 + (1 : Int32)) m19 _ hf h
theorem fr_R_takes {v1 : Int32} {v2 : Nat} {m : jMem} {r : (Int32 × jMem)} (h : f_R_takes v1 v2 m = some r) : jfr W_R_takes m r.2 := by
  unfold f_R_takes at h
  have hf : jfr W_R_takes m m := jfr_rf
  obtain ⟨u1, m2, zm2, h⟩ := jbd_some h
  replace hf := jfr_tr hf (jfr_sub (W := W_S_cut) rfl (fr_S_cut zm2))
  obtain ⟨g4, h⟩ := jgd_some h
  obtain ⟨m3, hm3, h⟩ := jpu_some h
  replace hf := jfr_tr hf (jfr_up hm3 rfl)
  obtain ⟨g7, h⟩ := jgd_some h
  obtain ⟨u5, m6, zm6, h⟩ := jbd_some h
  replace hf := jfr_tr hf (jfr_sub (W := W_H_clear) rfl (fr_H_clear g7 zm6))
  obtain ⟨m8, hm8, h⟩ := jpu_some h
  replace hf := jfr_tr hf (jfr_up hm8 rfl)
  obtain ⟨m9, hm9, h⟩ := jpu_some h
  replace hf := jfr_tr hf (jfr_up hm9 rfl)
  obtain ⟨u10, m11, zm11, h⟩ := jbd_some h
  replace hf := jfr_tr hf (jfr_sub (W := W_R_stepTo) rfl (fr_R_stepTo zm11))
  refine fr_lp_R_takes_37 _ ?_ _ (0 : Int32) m11 _ hf h
  intro m20 r hf h
  refine jem_ne (p := (m20 21 4) = 0) (fun c => ?_) (fun c => ?_)
  · rw [if_neg c] at h
    cases h
    exact hf
  · rw [if_pos c] at h
    cases h
    exact hf

def W_H_ruleOf : List (Nat × Nat) := []
theorem fr_H_ruleOf {hb : Nat} (hh : jhok hb) {v1 : Int32} {m : jMem} {r : (Nat × jMem)} (h : f_H_ruleOf hb v1 m = some r) : jfr W_H_ruleOf m r.2 := by
  unfold f_H_ruleOf at h
  have hf : jfr W_H_ruleOf m m := jfr_rf
  obtain ⟨x1, m2, zm2, h⟩ := jbd_some h
  replace hf := jfr_tr hf (jfr_sub (W := W_C_isIn) rfl (fr_C_isIn zm2))
  refine jem (p := x1 = 0) (fun c => ?_) (fun c => ?_)
  · rw [if_pos c] at h
    cases h
    exact hf
  · rw [if_neg c] at h
    obtain ⟨q3, eq3, g, h⟩ := jl4_some h
    cases h
    exact hf

def W_H_joined : List (Nat × Nat) := []
theorem fr_H_joined {v0 : Nat} {v1 : Int32} {v2 : Int32} {m : jMem} {r : (Int32 × jMem)} (h : f_H_joined v0 v1 v2 m = some r) : jfr W_H_joined m r.2 := by
  unfold f_H_joined at h
  have hf : jfr W_H_joined m m := jfr_rf
  obtain ⟨g, h⟩ := jgd_some h
  obtain ⟨x1, ex1, h⟩ := jlt_some h
  obtain ⟨x2, ex2, g, h⟩ := jLsw_some h
  by_cases c1 : x2 = (1 : Int32)
  · rw [if_pos c1] at h
    refine jem_ne (p := v1 = 0) (fun c => ?_) (fun c => ?_)
    · rw [if_neg c] at h
      obtain ⟨x33, m34, zm34, h⟩ := jbd_some h
      replace hf := jfr_tr hf (jfr_sub (W := W_C_truth) rfl (fr_C_truth zm34))
      cases h
      exact hf
    · rw [if_pos c] at h
      refine jem (p := v2 = 0) (fun c => ?_) (fun c => ?_)
      · rw [if_pos c] at h
        obtain ⟨x35, m36, zm36, h⟩ := jbd_some h
        replace hf := jfr_tr hf (jfr_sub (W := W_C_truth) rfl (fr_C_truth zm36))
        cases h
        exact hf
      · rw [if_neg c] at h
        obtain ⟨x37, m38, zm38, h⟩ := jbd_some h
        replace hf := jfr_tr hf (jfr_sub (W := W_C_truth) rfl (fr_C_truth zm38))
        cases h
        exact hf
  · rw [if_neg c1] at h
    by_cases c2 : x2 = (2 : Int32)
    · rw [if_pos c2] at h
      refine jem (p := v1 = 0) (fun c => ?_) (fun c => ?_)
      · rw [if_pos c] at h
        obtain ⟨x27, m28, zm28, h⟩ := jbd_some h
        replace hf := jfr_tr hf (jfr_sub (W := W_C_truth) rfl (fr_C_truth zm28))
        cases h
        exact hf
      · rw [if_neg c] at h
        refine jem (p := v2 = 0) (fun c => ?_) (fun c => ?_)
        · rw [if_pos c] at h
          obtain ⟨x29, m30, zm30, h⟩ := jbd_some h
          replace hf := jfr_tr hf (jfr_sub (W := W_C_truth) rfl (fr_C_truth zm30))
          cases h
          exact hf
        · rw [if_neg c] at h
          obtain ⟨x31, m32, zm32, h⟩ := jbd_some h
          replace hf := jfr_tr hf (jfr_sub (W := W_C_truth) rfl (fr_C_truth zm32))
          cases h
          exact hf
    · rw [if_neg c2] at h
      by_cases c3 : x2 = (3 : Int32)
      · rw [if_pos c3] at h
        refine jem (p := v2 ≤ v1) (fun c => ?_) (fun c => ?_)
        · rw [if_pos c] at h
          obtain ⟨x23, m24, zm24, h⟩ := jbd_some h
          replace hf := jfr_tr hf (jfr_sub (W := W_C_truth) rfl (fr_C_truth zm24))
          cases h
          exact hf
        · rw [if_neg c] at h
          obtain ⟨x25, m26, zm26, h⟩ := jbd_some h
          replace hf := jfr_tr hf (jfr_sub (W := W_C_truth) rfl (fr_C_truth zm26))
          cases h
          exact hf
      · rw [if_neg c3] at h
        by_cases c4 : x2 = (4 : Int32)
        · rw [if_pos c4] at h
          refine jem (p := v2 < v1) (fun c => ?_) (fun c => ?_)
          · rw [if_pos c] at h
            obtain ⟨x19, m20, zm20, h⟩ := jbd_some h
            replace hf := jfr_tr hf (jfr_sub (W := W_C_truth) rfl (fr_C_truth zm20))
            cases h
            exact hf
          · rw [if_neg c] at h
            obtain ⟨x21, m22, zm22, h⟩ := jbd_some h
            replace hf := jfr_tr hf (jfr_sub (W := W_C_truth) rfl (fr_C_truth zm22))
            cases h
            exact hf
        · rw [if_neg c4] at h
          by_cases c5 : x2 = (5 : Int32)
          · rw [if_pos c5] at h
            refine jem_ne (p := v1 = v2) (fun c => ?_) (fun c => ?_)
            · rw [if_neg c] at h
              obtain ⟨x15, m16, zm16, h⟩ := jbd_some h
              replace hf := jfr_tr hf (jfr_sub (W := W_C_truth) rfl (fr_C_truth zm16))
              cases h
              exact hf
            · rw [if_pos c] at h
              obtain ⟨x17, m18, zm18, h⟩ := jbd_some h
              replace hf := jfr_tr hf (jfr_sub (W := W_C_truth) rfl (fr_C_truth zm18))
              cases h
              exact hf
          · rw [if_neg c5] at h
            by_cases c6 : x2 = (6 : Int32)
            · rw [if_pos c6] at h
              refine jem (p := v1 = v2) (fun c => ?_) (fun c => ?_)
              · rw [if_pos c] at h
                obtain ⟨x11, m12, zm12, h⟩ := jbd_some h
                replace hf := jfr_tr hf (jfr_sub (W := W_C_truth) rfl (fr_C_truth zm12))
                cases h
                exact hf
              · rw [if_neg c] at h
                obtain ⟨x13, m14, zm14, h⟩ := jbd_some h
                replace hf := jfr_tr hf (jfr_sub (W := W_C_truth) rfl (fr_C_truth zm14))
                cases h
                exact hf
            · rw [if_neg c6] at h
              by_cases c7 : x2 = (7 : Int32)
              · rw [if_pos c7] at h
                refine jem (p := v1 < v2) (fun c => ?_) (fun c => ?_)
                · rw [if_pos c] at h
                  obtain ⟨x7, m8, zm8, h⟩ := jbd_some h
                  replace hf := jfr_tr hf (jfr_sub (W := W_C_truth) rfl (fr_C_truth zm8))
                  cases h
                  exact hf
                · rw [if_neg c] at h
                  obtain ⟨x9, m10, zm10, h⟩ := jbd_some h
                  replace hf := jfr_tr hf (jfr_sub (W := W_C_truth) rfl (fr_C_truth zm10))
                  cases h
                  exact hf
              · rw [if_neg c7] at h
                by_cases c8 : x2 = (8 : Int32)
                · rw [if_pos c8] at h
                  refine jem (p := v1 ≤ v2) (fun c => ?_) (fun c => ?_)
                  · rw [if_pos c] at h
                    obtain ⟨x3, m4, zm4, h⟩ := jbd_some h
                    replace hf := jfr_tr hf (jfr_sub (W := W_C_truth) rfl (fr_C_truth zm4))
                    cases h
                    exact hf
                  · rw [if_neg c] at h
                    obtain ⟨x5, m6, zm6, h⟩ := jbd_some h
                    replace hf := jfr_tr hf (jfr_sub (W := W_C_truth) rfl (fr_C_truth zm6))
                    cases h
                    exact hf
                · rw [if_neg c8] at h
                  by_cases c9 : x2 = (9 : Int32)
                  · rw [if_pos c9] at h
                    cases h
                    exact hf
                  · rw [if_neg c9] at h
                    cases h
                    exact hf

def W_H_workOut : List (Nat × Nat) := [(11, 0), (20, 0)]
theorem fr_H_workOut {hb : Nat} (hh : jhok hb) {v1 : Int32} {v2 : Int32} {v3 : Nat} {m : jMem} {r : (Int32 × jMem)} (h : f_H_workOut hb v1 v2 v3 m = some r) : jfr W_H_workOut m r.2 := by
  unfold f_H_workOut at h
  have hf : jfr W_H_workOut m m := jfr_rf
  obtain ⟨q1, eq1, g, h⟩ := jl4_some h
  refine jem_ne (p := q1 = 0) (fun c => ?_) (fun c => ?_)
  · rw [if_neg c] at h
    obtain ⟨g, h⟩ := jgd_some h
    refine jem (p := q1 = 1003) (fun c => ?_) (fun c => ?_)
    · rw [if_pos c] at h
      refine jem (p := (64 : Int32) ≤ v2) (fun c => ?_) (fun c => ?_)
      · rw [if_pos c] at h
        cases h
        exact hf
      · rw [if_neg c] at h
        obtain ⟨g, h⟩ := jgd_some h
        obtain ⟨x2, ex2, h⟩ := jlt_some h
        obtain ⟨g, h⟩ := jgd_some h
        refine jem (p := x2 < (Int32.ofNat (jpar v3))) (fun c => ?_) (fun c => ?_)
        · rw [if_pos c] at h
          obtain ⟨g, h⟩ := jgd_some h
          refine jem_ne (p := q1 = 1003) (fun c => ?_) (fun c => ?_)
          · rw [if_neg c] at h
            obtain ⟨g, h⟩ := jgd_some h
            obtain ⟨x3, ex3, h⟩ := jlt_some h
            obtain ⟨x4, ex4, g, h⟩ := jld_some h
            obtain ⟨m5, hm5, g, h⟩ := jst_some h
            replace hf := jfr_tr hf (jfr_ua hm5 (jhW (off := 8) hh rfl rfl))
            cases h
            exact hf
          · rw [if_pos c] at h
            obtain ⟨x6, ex6, g, h⟩ := jld_some h
            obtain ⟨m7, hm7, g, h⟩ := jst_some h
            replace hf := jfr_tr hf (jfr_ua hm7 (jhW (off := 8) hh rfl rfl))
            cases h
            exact hf
        · rw [if_neg c] at h
          cases h
          exact hf
    · rw [if_neg c] at h
      obtain ⟨g, h⟩ := jgd_some h
      obtain ⟨x8, ex8, h⟩ := jlt_some h
      refine jem_ne (p := x8 = (2 : Int32)) (fun c => ?_) (fun c => ?_)
      · rw [if_neg c] at h
        obtain ⟨g, h⟩ := jgd_some h
        refine jem_ne (p := q1 = 1025) (fun c => ?_) (fun c => ?_)
        · rw [if_neg c] at h
          refine jem (p := (2 : Int32) ≤ v2) (fun c => ?_) (fun c => ?_)
          · rw [if_pos c] at h
            obtain ⟨x9, ex9, g, h⟩ := jld_some h
            obtain ⟨x10, ex10, g, h⟩ := jld_some h
            obtain ⟨x11, m12, zm12, h⟩ := jbd_some h
            replace hf := jfr_tr hf (jfr_sub (W := W_H_joined) rfl (fr_H_joined zm12))
            obtain ⟨m13, hm13, g, h⟩ := jst_some h
            replace hf := jfr_tr hf (jfr_ua hm13 (jhW (off := 8) hh rfl rfl))
            cases h
            exact hf
          · rw [if_neg c] at h
            cases h
            exact hf
        · rw [if_pos c] at h
          refine jem (p := v2 < (1 : Int32)) (fun c => ?_) (fun c => ?_)
          · rw [if_pos c] at h
            cases h
            exact hf
          · rw [if_neg c] at h
            obtain ⟨x14, ex14, g, h⟩ := jld_some h
            refine jem_ne (p := x14 = 0) (fun c => ?_) (fun c => ?_)
            · rw [if_neg c] at h
              obtain ⟨x15, m16, zm16, h⟩ := jbd_some h
              replace hf := jfr_tr hf (jfr_sub (W := W_C_truth) rfl (fr_C_truth zm16))
              obtain ⟨m17, hm17, g, h⟩ := jst_some h
              replace hf := jfr_tr hf (jfr_ua hm17 (jhW (off := 8) hh rfl rfl))
              cases h
              exact hf
            · rw [if_pos c] at h
              obtain ⟨x18, m19, zm19, h⟩ := jbd_some h
              replace hf := jfr_tr hf (jfr_sub (W := W_C_truth) rfl (fr_C_truth zm19))
              obtain ⟨m20, hm20, g, h⟩ := jst_some h
              replace hf := jfr_tr hf (jfr_ua hm20 (jhW (off := 8) hh rfl rfl))
              cases h
              exact hf
      · rw [if_pos c] at h
        refine jem (p := (64 : Int32) ≤ v2) (fun c => ?_) (fun c => ?_)
        · rw [if_pos c] at h
          cases h
          exact hf
        · rw [if_neg c] at h
          obtain ⟨g, h⟩ := jgd_some h
          obtain ⟨x21, ex21, h⟩ := jlt_some h
          obtain ⟨g, h⟩ := jgd_some h
          refine jem (p := x21 < (Int32.ofNat (jpar v3))) (fun c => ?_) (fun c => ?_)
          · rw [if_pos c] at h
            obtain ⟨g, h⟩ := jgd_some h
            refine jem_ne (p := q1 = 1003) (fun c => ?_) (fun c => ?_)
            · rw [if_neg c] at h
              obtain ⟨g, h⟩ := jgd_some h
              obtain ⟨x22, ex22, h⟩ := jlt_some h
              obtain ⟨x23, ex23, g, h⟩ := jld_some h
              obtain ⟨m24, hm24, g, h⟩ := jst_some h
              replace hf := jfr_tr hf (jfr_ua hm24 (jhW (off := 8) hh rfl rfl))
              cases h
              exact hf
            · rw [if_pos c] at h
              obtain ⟨x25, ex25, g, h⟩ := jld_some h
              obtain ⟨m26, hm26, g, h⟩ := jst_some h
              replace hf := jfr_tr hf (jfr_ua hm26 (jhW (off := 8) hh rfl rfl))
              cases h
              exact hf
          · rw [if_neg c] at h
            cases h
            exact hf
  · rw [if_pos c] at h
    cases h
    exact hf

def W_H_holds : List (Nat × Nat) := [(11, 0), (20, 0)]
theorem fr_lp_H_holds_24 {m0 : jMem} {hb : Nat} (hh : jhok hb) (v1 : Int32) (v2 : Nat) (k50 : Int32 → jMem → Option (Int32 × jMem))
    (hk50 : ∀ (v3 : Int32) (m : jMem) (r : (Int32 × jMem)), jfr W_H_holds m0 m → k50 v3 m = some r → jfr W_H_holds m0 r.2) : ∀ (n : Nat) (v3 : Int32) (v4 : Int32) (m : jMem) (r : (Int32 × jMem)), jfr W_H_holds m0 m → lp_H_holds_24 hb v1 v2 k50 n v3 v4 m = some r → jfr W_H_holds m0 r.2 := by
  intro n
  induction n with
  | zero => intro v3 v4 m r hf h; unfold lp_H_holds_24 at h; cases h
  | succ n ih =>
    intro v3 v4 m r hf h
    unfold lp_H_holds_24 at h
    obtain ⟨x2, ex2, g, h⟩ := jld_some h
    refine jem (p := x2 ≤ v4) (fun c => ?_) (fun c => ?_)
    · rw [if_pos c] at h
      exact hk50 v3 m _ hf h
    · rw [if_neg c] at h
      obtain ⟨x3, m4, zm4, h⟩ := jbd_some h
      replace hf := jfr_tr hf (jfr_sub (W := W_H_workOut) rfl (fr_H_workOut hh zm4))
      exact ih x3 (v4 + (1 : Int32)) m4 _ hf h
theorem fr_H_holds {hb : Nat} (hh : jhok hb) {v1 : Int32} {v2 : Nat} {m : jMem} {r : (Int32 × jMem)} (h : f_H_holds hb v1 v2 m = some r) : jfr W_H_holds m r.2 := by
  unfold f_H_holds at h
  have hf : jfr W_H_holds m m := jfr_rf
  refine jem (p := v1 < 0) (fun c => ?_) (fun c => ?_)
  · rw [if_pos c] at h
    cases h
    exact hf
  · rw [if_neg c] at h
    refine jem (p := v1 < (m hb 7)) (fun c => ?_) (fun c => ?_)
    · rw [if_pos c] at h
      obtain ⟨x1, ex1, g, h⟩ := jld_some h
      refine fr_lp_H_holds_24 hh v1 v2 _ ?_ _ (0 : Int32) x1 m _ hf h
      intro w6 m5 r hf h
      refine jem_ne (p := w6 = (1 : Int32)) (fun c => ?_) (fun c => ?_)
      · rw [if_neg c] at h
        cases h
        exact hf
      · rw [if_pos c] at h
        obtain ⟨x7, ex7, g, h⟩ := jld_some h
        refine jem (p := x7 = 0) (fun c => ?_) (fun c => ?_)
        · rw [if_pos c] at h
          cases h
          exact hf
        · rw [if_neg c] at h
          cases h
          exact hf
    · rw [if_neg c] at h
      cases h
      exact hf
