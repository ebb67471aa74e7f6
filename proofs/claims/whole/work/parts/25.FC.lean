def W_C_putBytes : List (Nat × Nat) := [(1, 2), (2, 0)]
theorem fr_lp_C_putBytes_3 {m0 : jMem} (v1 : Int32) (k49 : jMem → Option (Unit × jMem))
    (hk49 : ∀ (m : jMem) (r : (Unit × jMem)), jfr W_C_putBytes m0 m → k49 m = some r → jfr W_C_putBytes m0 r.2) : ∀ (n : Nat) (v2 : Int32) (m : jMem) (r : (Unit × jMem)), jfr W_C_putBytes m0 m → lp_C_putBytes_3 v1 k49 n v2 m = some r → jfr W_C_putBytes m0 r.2 := by
  intro n
  induction n with
  | zero => intro v2 m r hf h; unfold lp_C_putBytes_3 at h; cases h
  | succ n ih =>
    intro v2 m r hf h
    unfold lp_C_putBytes_3 at h
    refine jem (p := v2 < 0) (fun c => ?_) (fun c => ?_)
    · rw [if_pos c] at h
      exact hk49  m _ hf h
    · rw [if_neg c] at h
      refine jem (p := (400 : Int32) ≤ (m 1 1)) (fun c => ?_) (fun c => ?_)
      · rw [if_pos c] at h
        exact hk49  m _ hf h
      · rw [if_neg c] at h
        obtain ⟨m1, hm1, g, h⟩ := jst_some h
        replace hf := jfr_tr hf (jfr_ua hm1 rfl)
        obtain ⟨m2, hm2, h⟩ := jpu_some h
        replace hf := jfr_tr hf (jfr_up hm2 rfl)
        exact ih (v2 + (-8 : Int32)) m2 _ hf h
theorem fr_C_putBytes {v1 : Int32} {m : jMem} {r : (Unit × jMem)} (h : f_C_putBytes v1 m = some r) : jfr W_C_putBytes m r.2 := by
  unfold f_C_putBytes at h
  have hf : jfr W_C_putBytes m m := jfr_rf
  refine fr_lp_C_putBytes_3 v1 _ ?_ _ (24 : Int32) m _ hf h
  intro m3 r hf h
  cases h
  exact hf

def W_C_feed : List (Nat × Nat) := [(1, 2), (2, 0)]
theorem fr_C_feed {v1 : Int32} {v2 : Int32} {v3 : Int32} {v4 : Int32} {v5 : Int32} {m : jMem} {r : (Int32 × jMem)} (h : f_C_feed v1 v2 v3 v4 v5 m = some r) : jfr W_C_feed m r.2 := by
  unfold f_C_feed at h
  have hf : jfr W_C_feed m m := jfr_rf
  refine jem (p := (m 1 1) ≤ (380 : Int32)) (fun c => ?_) (fun c => ?_)
  · rw [if_pos c] at h
    obtain ⟨u1, m2, zm2, h⟩ := jbd_some h
    replace hf := jfr_tr hf (jfr_sub (W := W_C_putBytes) rfl (fr_C_putBytes zm2))
    obtain ⟨u3, m4, zm4, h⟩ := jbd_some h
    replace hf := jfr_tr hf (jfr_sub (W := W_C_putBytes) rfl (fr_C_putBytes zm4))
    obtain ⟨u5, m6, zm6, h⟩ := jbd_some h
    replace hf := jfr_tr hf (jfr_sub (W := W_C_putBytes) rfl (fr_C_putBytes zm6))
    obtain ⟨u7, m8, zm8, h⟩ := jbd_some h
    replace hf := jfr_tr hf (jfr_sub (W := W_C_putBytes) rfl (fr_C_putBytes zm8))
    obtain ⟨u9, m10, zm10, h⟩ := jbd_some h
    replace hf := jfr_tr hf (jfr_sub (W := W_C_putBytes) rfl (fr_C_putBytes zm10))
    cases h
    exact hf
  · rw [if_neg c] at h
    cases h
    exact hf

def W_C_text : List (Nat × Nat) := [(1, 2), (1, 3), (1, 4), (3, 2), (3, 3), (3, 8), (3, 11), (3, 12), (4, 0), (5, 0), (6, 0), (7, 0), (8, 0), (9, 0), (10, 0), (12, 2), (12, 3), (12, 8), (12, 11), (12, 12), (13, 0), (14, 0), (15, 0), (16, 0), (17, 0), (18, 0), (19, 0), (21, 2), (21, 3), (21, 4), (21, 5), (21, 6), (21, 7), (21, 9), (21, 10), (21, 12), (21, 13), (22, 0), (23, 0), (24, 2), (24, 6), (25, 0), (26, 0), (27, 0)]
theorem fr_C_text {v1 : Int32} {m : jMem} {r : (Int32 × jMem)} (h : f_C_text v1 m = some r) : jfr W_C_text m r.2 := by
  unfold f_C_text at h
  have hf : jfr W_C_text m m := jfr_rf
  refine jem (p := v1 < 0) (fun c => ?_) (fun c => ?_)
  · rw [if_pos c] at h
    cases h
    exact hf
  · rw [if_neg c] at h
    refine jem (p := v1 ≤ (m 1 1)) (fun c => ?_) (fun c => ?_)
    · rw [if_pos c] at h
      obtain ⟨m1, hm1, h⟩ := jpu_some h
      replace hf := jfr_tr hf (jfr_up hm1 rfl)
      obtain ⟨x2, m3, zm3, h⟩ := jbd_some h
      replace hf := jfr_tr hf (jfr_sub (W := W_R_takes) rfl (fr_R_takes zm3))
      refine jem_ne (p := x2 = 0) (fun c => ?_) (fun c => ?_)
      · rw [if_neg c] at h
        obtain ⟨g5, h⟩ := jgd_some h
        obtain ⟨m4, hm4, h⟩ := jpu_some h
        replace hf := jfr_tr hf (jfr_up hm4 rfl)
        obtain ⟨g7, h⟩ := jgd_some h
        obtain ⟨m6, hm6, h⟩ := jpu_some h
        replace hf := jfr_tr hf (jfr_up hm6 rfl)
        obtain ⟨g8, h⟩ := jgd_some h
        cases h
        exact hf
      · rw [if_pos c] at h
        cases h
        exact hf
    · rw [if_neg c] at h
      cases h
      exact hf

def W_C_fault : List (Nat × Nat) := []
theorem fr_C_fault {v1 : Int32} {m : jMem} {r : (Int32 × jMem)} (h : f_C_fault v1 m = some r) : jfr W_C_fault m r.2 := by
  unfold f_C_fault at h
  have hf : jfr W_C_fault m m := jfr_rf
  refine jem_ne (p := v1 = 0) (fun c => ?_) (fun c => ?_)
  · rw [if_neg c] at h
    refine jem_ne (p := v1 = (1 : Int32)) (fun c => ?_) (fun c => ?_)
    · rw [if_neg c] at h
      cases h
      exact hf
    · rw [if_pos c] at h
      cases h
      exact hf
  · rw [if_pos c] at h
    cases h
    exact hf

def W_C_way : List (Nat × Nat) := [(47, 0), (48, 0), (49, 0), (50, 0), (51, 0), (52, 0), (54, 0), (55, 0), (56, 0), (57, 0), (58, 0), (59, 0)]
theorem fr_C_way {v1 : Int32} {v2 : Int32} {v3 : Int32} {m : jMem} {r : (Int32 × jMem)} (h : f_C_way v1 v2 v3 m = some r) : jfr W_C_way m r.2 := by
  unfold f_C_way at h
  have hf : jfr W_C_way m m := jfr_rf
  obtain ⟨x1, m2, zm2, h⟩ := jbd_some h
  replace hf := jfr_tr hf (jfr_sub (W := W_C_isWriter) rfl (fr_C_isWriter zm2))
  refine jem (p := x1 = 0) (fun c => ?_) (fun c => ?_)
  · rw [if_pos c] at h
    cases h
    exact hf
  · rw [if_neg c] at h
    obtain ⟨x3, m4, zm4, h⟩ := jbd_some h
    replace hf := jfr_tr hf (jfr_sub (W := W_C_isWriter) rfl (fr_C_isWriter zm4))
    refine jem (p := x3 = 0) (fun c => ?_) (fun c => ?_)
    · rw [if_pos c] at h
      cases h
      exact hf
    · rw [if_neg c] at h
      refine jem (p := v1 = v2) (fun c => ?_) (fun c => ?_)
      · rw [if_pos c] at h
        cases h
        exact hf
      · rw [if_neg c] at h
        refine jem (p := v3 < (1 : Int32)) (fun c => ?_) (fun c => ?_)
        · rw [if_pos c] at h
          cases h
          exact hf
        · rw [if_neg c] at h
          refine jem (p := v3 ≤ (30 : Int32)) (fun c => ?_) (fun c => ?_)
          · rw [if_pos c] at h
            obtain ⟨u5, m6, zm6, h⟩ := jbd_some h
            replace hf := jfr_tr hf (jfr_sub (W := W_P_setWay) rfl (fr_P_setWay zm6))
            cases h
            exact hf
          · rw [if_neg c] at h
            cases h
            exact hf

def W_C_knownTo : List (Nat × Nat) := []
theorem fr_C_knownTo {v1 : Int32} {m : jMem} {r : (Int32 × jMem)} (h : f_C_knownTo v1 m = some r) : jfr W_C_knownTo m r.2 := by
  unfold f_C_knownTo at h
  have hf : jfr W_C_knownTo m m := jfr_rf
  obtain ⟨x1, m2, zm2, h⟩ := jbd_some h
  replace hf := jfr_tr hf (jfr_sub (W := W_C_isWriter) rfl (fr_C_isWriter zm2))
  refine jem (p := x1 = 0) (fun c => ?_) (fun c => ?_)
  · rw [if_pos c] at h
    cases h
    exact hf
  · rw [if_neg c] at h
    obtain ⟨x3, ex3, g, h⟩ := jld_some h
    obtain ⟨x4, ex4, g, h⟩ := jld_some h
    cases h
    exact hf

def W_C_enter : List (Nat × Nat) := [(29, 16), (29, 17), (30, 0), (31, 0), (32, 0), (33, 0), (34, 0), (35, 0), (36, 0), (37, 0), (38, 0), (39, 0), (40, 0), (41, 0), (42, 0), (43, 0), (45, 11), (60, 0), (61, 0), (62, 0), (63, 0), (64, 0)]
theorem fr_lp_C_enter_60 {m0 : jMem} (v1 : Int32) (v2 : Int32) (v6 : Int32) (k99 : jMem → Option (Int32 × jMem))
    (hk99 : ∀ (m : jMem) (r : (Int32 × jMem)), jfr W_C_enter m0 m → k99 m = some r → jfr W_C_enter m0 r.2) : ∀ (n : Nat) (v7 : Int32) (m : jMem) (r : (Int32 × jMem)), jfr W_C_enter m0 m → lp_C_enter_60 v1 v2 v6 k99 n v7 m = some r → jfr W_C_enter m0 r.2 := by
  intro n
  induction n with
  | zero => intro v7 m r hf h; unfold lp_C_enter_60 at h; cases h
  | succ n ih =>
    intro v7 m r hf h
    unfold lp_C_enter_60 at h
    refine jem (p := (6 : Int32) ≤ v7) (fun c => ?_) (fun c => ?_)
    · rw [if_pos c] at h
      exact hk99  m _ hf h
    · rw [if_neg c] at h
      obtain ⟨x7, m8, zm8, h⟩ := jbd_some h
      replace hf := jfr_tr hf (jfr_sub (W := W_C_isIn) rfl (fr_C_isIn zm8))
      refine jem (p := x7 = 0) (fun c => ?_) (fun c => ?_)
      · rw [if_pos c] at h
        exact ih (v7 + (1 : Int32)) m8 _ hf h
      · rw [if_neg c] at h
        obtain ⟨x9, m10, zm10, h⟩ := jbd_some h
        replace hf := jfr_tr hf (jfr_sub (W := W_P_send) rfl (fr_P_send zm10))
        exact ih (v7 + (1 : Int32)) m10 _ hf h
theorem fr_C_enter {v1 : Int32} {v2 : Int32} {v3 : Int32} {v4 : Int32} {v5 : Int32} {m : jMem} {r : (Int32 × jMem)} (h : f_C_enter v1 v2 v3 v4 v5 m = some r) : jfr W_C_enter m r.2 := by
  unfold f_C_enter at h
  have hf : jfr W_C_enter m m := jfr_rf
  refine jem (p := (30 : Int32) ≤ (m 29 15)) (fun c => ?_) (fun c => ?_)
  · rw [if_pos c] at h
    cases h
    exact hf
  · rw [if_neg c] at h
    obtain ⟨x1, m2, zm2, h⟩ := jbd_some h
    replace hf := jfr_tr hf (jfr_sub (W := W_JI_bitCount) rfl (fr_JI_bitCount zm2))
    refine jem (p := ((m 45 10) + x1) ≤ (150 : Int32)) (fun c => ?_) (fun c => ?_)
    · rw [if_pos c] at h
      obtain ⟨x3, m4, zm4, h⟩ := jbd_some h
      replace hf := jfr_tr hf (jfr_sub (W := W_C_knownTo) rfl (fr_C_knownTo zm4))
      obtain ⟨x5, m6, zm6, h⟩ := jbd_some h
      replace hf := jfr_tr hf (jfr_sub (W := W_L_add) rfl (fr_L_add zm6))
      refine fr_lp_C_enter_60 v1 v2 x5 _ ?_ _ (0 : Int32) m6 _ hf h
      intro m11 r hf h
      cases h
      exact hf
    · rw [if_neg c] at h
      cases h
      exact hf

def W_C_mayAnswer : List (Nat × Nat) := []
theorem fr_C_mayAnswer {v1 : Int32} {v2 : Int32} {v3 : Int32} {v4 : Int32} {m : jMem} {r : (Int32 × jMem)} (h : f_C_mayAnswer v1 v2 v3 v4 m = some r) : jfr W_C_mayAnswer m r.2 := by
  unfold f_C_mayAnswer at h
  have hf : jfr W_C_mayAnswer m m := jfr_rf
  refine jem_ne (p := v2 = (2 : Int32)) (fun c => ?_) (fun c => ?_)
  · rw [if_neg c] at h
    refine jem_ne (p := v3 = (-1 : Int32)) (fun c => ?_) (fun c => ?_)
    · rw [if_neg c] at h
      obtain ⟨x1, m2, zm2, h⟩ := jbd_some h
      replace hf := jfr_tr hf (jfr_sub (W := W_C_knownTo) rfl (fr_C_knownTo zm2))
      obtain ⟨x3, m4, zm4, h⟩ := jbd_some h
      replace hf := jfr_tr hf (jfr_sub (W := W_C_isIn) rfl (fr_C_isIn zm4))
      refine jem (p := x3 = 0) (fun c => ?_) (fun c => ?_)
      · rw [if_pos c] at h
        cases h
        exact hf
      · rw [if_neg c] at h
        refine jem (p := v4 = (-1 : Int32)) (fun c => ?_) (fun c => ?_)
        · rw [if_pos c] at h
          cases h
          exact hf
        · rw [if_neg c] at h
          refine jem (p := v4 = v3) (fun c => ?_) (fun c => ?_)
          · rw [if_pos c] at h
            cases h
            exact hf
          · rw [if_neg c] at h
            obtain ⟨x5, m6, zm6, h⟩ := jbd_some h
            replace hf := jfr_tr hf (jfr_sub (W := W_C_isIn) rfl (fr_C_isIn zm6))
            refine jem (p := x5 = 0) (fun c => ?_) (fun c => ?_)
            · rw [if_pos c] at h
              cases h
              exact hf
            · rw [if_neg c] at h
              cases h
              exact hf
    · rw [if_pos c] at h
      refine jem_ne (p := v4 = (-1 : Int32)) (fun c => ?_) (fun c => ?_)
      · rw [if_neg c] at h
        cases h
        exact hf
      · rw [if_pos c] at h
        cases h
        exact hf
  · rw [if_pos c] at h
    refine jem_ne (p := v4 = (-1 : Int32)) (fun c => ?_) (fun c => ?_)
    · rw [if_neg c] at h
      cases h
      exact hf
    · rw [if_pos c] at h
      obtain ⟨x7, ex7, g, h⟩ := jld_some h
      obtain ⟨x8, m9, zm9, h⟩ := jbd_some h
      replace hf := jfr_tr hf (jfr_sub (W := W_C_isIn) rfl (fr_C_isIn zm9))
      refine jem (p := x8 = 0) (fun c => ?_) (fun c => ?_)
      · rw [if_pos c] at h
        cases h
        exact hf
      · rw [if_neg c] at h
        cases h
        exact hf

def W_C_write : List (Nat × Nat) := [(29, 16), (29, 17), (30, 0), (31, 0), (32, 0), (33, 0), (34, 0), (35, 0), (36, 0), (37, 0), (38, 0), (39, 0), (40, 0), (41, 0), (42, 0), (43, 0), (45, 11), (60, 0), (61, 0), (62, 0), (63, 0), (64, 0)]
theorem fr_C_write {v1 : Int32} {v2 : Int32} {v3 : Int32} {v4 : Int32} {v5 : Int32} {m : jMem} {r : (Int32 × jMem)} (h : f_C_write v1 v2 v3 v4 v5 m = some r) : jfr W_C_write m r.2 := by
  unfold f_C_write at h
  have hf : jfr W_C_write m m := jfr_rf
  obtain ⟨x1, m2, zm2, h⟩ := jbd_some h
  replace hf := jfr_tr hf (jfr_sub (W := W_C_isWriter) rfl (fr_C_isWriter zm2))
  refine jem (p := x1 = 0) (fun c => ?_) (fun c => ?_)
  · rw [if_pos c] at h
    cases h
    exact hf
  · rw [if_neg c] at h
    refine jem (p := v3 < 0) (fun c => ?_) (fun c => ?_)
    · rw [if_pos c] at h
      cases h
      exact hf
    · rw [if_neg c] at h
      refine jem (p := v3 ≤ (2 : Int32)) (fun c => ?_) (fun c => ?_)
      · rw [if_pos c] at h
        refine jem (p := v2 < (1 : Int32)) (fun c => ?_) (fun c => ?_)
        · rw [if_pos c] at h
          cases h
          exact hf
        · rw [if_neg c] at h
          refine jem (p := (63 : Int32) < v2) (fun c => ?_) (fun c => ?_)
          · rw [if_pos c] at h
            cases h
            exact hf
          · rw [if_neg c] at h
            obtain ⟨x3, m4, zm4, h⟩ := jbd_some h
            replace hf := jfr_tr hf (jfr_sub (W := W_C_isIn) rfl (fr_C_isIn zm4))
            refine jem (p := x3 = 0) (fun c => ?_) (fun c => ?_)
            · rw [if_pos c] at h
              obtain ⟨x5, m6, zm6, h⟩ := jbd_some h
              replace hf := jfr_tr hf (jfr_sub (W := W_C_mayAnswer) rfl (fr_C_mayAnswer zm6))
              refine jem_ne (p := x5 = 0) (fun c => ?_) (fun c => ?_)
              · rw [if_neg c] at h
                obtain ⟨x7, m8, zm8, h⟩ := jbd_some h
                replace hf := jfr_tr hf (jfr_sub (W := W_C_enter) rfl (fr_C_enter zm8))
                cases h
                exact hf
              · rw [if_pos c] at h
                cases h
                exact hf
            · rw [if_neg c] at h
              cases h
              exact hf
      · rw [if_neg c] at h
        cases h
        exact hf

def W_C_late : List (Nat × Nat) := [(63, 0)]
theorem fr_C_late {v1 : Int32} {v2 : Int32} {m : jMem} {r : (Int32 × jMem)} (h : f_C_late v1 v2 m = some r) : jfr W_C_late m r.2 := by
  unfold f_C_late at h
  have hf : jfr W_C_late m m := jfr_rf
  obtain ⟨x1, m2, zm2, h⟩ := jbd_some h
  replace hf := jfr_tr hf (jfr_sub (W := W_P_isUnderWay) rfl (fr_P_isUnderWay zm2))
  refine jem (p := x1 = 0) (fun c => ?_) (fun c => ?_)
  · rw [if_pos c] at h
    cases h
    exact hf
  · rw [if_neg c] at h
    refine jem (p := v2 < (1 : Int32)) (fun c => ?_) (fun c => ?_)
    · rw [if_pos c] at h
      cases h
      exact hf
    · rw [if_neg c] at h
      refine jem (p := v2 ≤ (99 : Int32)) (fun c => ?_) (fun c => ?_)
      · rw [if_pos c] at h
        obtain ⟨x3, m4, zm4, h⟩ := jbd_some h
        replace hf := jfr_tr hf (jfr_sub (W := W_P_delay) rfl (fr_P_delay zm4))
        cases h
        exact hf
      · rw [if_neg c] at h
        cases h
        exact hf

def W_C_lose : List (Nat × Nat) := [(64, 0)]
theorem fr_C_lose {v1 : Int32} {m : jMem} {r : (Int32 × jMem)} (h : f_C_lose v1 m = some r) : jfr W_C_lose m r.2 := by
  unfold f_C_lose at h
  have hf : jfr W_C_lose m m := jfr_rf
  obtain ⟨x1, m2, zm2, h⟩ := jbd_some h
  replace hf := jfr_tr hf (jfr_sub (W := W_P_isUnderWay) rfl (fr_P_isUnderWay zm2))
  refine jem_ne (p := x1 = 0) (fun c => ?_) (fun c => ?_)
  · rw [if_neg c] at h
    obtain ⟨m3, hm3, g, h⟩ := jst_some h
    replace hf := jfr_tr hf (jfr_ua hm3 rfl)
    cases h
    exact hf
  · rw [if_pos c] at h
    cases h
    exact hf

def W_C_again : List (Nat × Nat) := [(45, 11), (60, 0), (61, 0), (62, 0), (63, 0), (64, 0)]
theorem fr_C_again {v1 : Int32} {v2 : Int32} {v3 : Int32} {m : jMem} {r : (Int32 × jMem)} (h : f_C_again v1 v2 v3 m = some r) : jfr W_C_again m r.2 := by
  unfold f_C_again at h
  have hf : jfr W_C_again m m := jfr_rf
  obtain ⟨x1, m2, zm2, h⟩ := jbd_some h
  replace hf := jfr_tr hf (jfr_sub (W := W_L_isLetter) rfl (fr_L_isLetter zm2))
  refine jem (p := x1 = 0) (fun c => ?_) (fun c => ?_)
  · rw [if_pos c] at h
    cases h
    exact hf
  · rw [if_neg c] at h
    obtain ⟨x3, m4, zm4, h⟩ := jbd_some h
    replace hf := jfr_tr hf (jfr_sub (W := W_C_isWriter) rfl (fr_C_isWriter zm4))
    refine jem (p := x3 = 0) (fun c => ?_) (fun c => ?_)
    · rw [if_pos c] at h
      cases h
      exact hf
    · rw [if_neg c] at h
      obtain ⟨x5, m6, zm6, h⟩ := jbd_some h
      replace hf := jfr_tr hf (jfr_sub (W := W_C_isWriter) rfl (fr_C_isWriter zm6))
      refine jem (p := x5 = 0) (fun c => ?_) (fun c => ?_)
      · rw [if_pos c] at h
        cases h
        exact hf
      · rw [if_neg c] at h
        refine jem_ne (p := v2 = v3) (fun c => ?_) (fun c => ?_)
        · rw [if_neg c] at h
          obtain ⟨x7, m8, zm8, h⟩ := jbd_some h
          replace hf := jfr_tr hf (jfr_sub (W := W_C_knownTo) rfl (fr_C_knownTo zm8))
          obtain ⟨x9, m10, zm10, h⟩ := jbd_some h
          replace hf := jfr_tr hf (jfr_sub (W := W_C_isIn) rfl (fr_C_isIn zm10))
          refine jem_ne (p := x9 = 0) (fun c => ?_) (fun c => ?_)
          · rw [if_neg c] at h
            obtain ⟨x11, m12, zm12, h⟩ := jbd_some h
            replace hf := jfr_tr hf (jfr_sub (W := W_P_send) rfl (fr_P_send zm12))
            cases h
            exact hf
          · rw [if_pos c] at h
            cases h
            exact hf
        · rw [if_pos c] at h
          cases h
          exact hf

def W_C_split : List (Nat × Nat) := [(45, 3), (45, 4), (45, 5)]
theorem fr_C_split {v1 : Int32} {v2 : Int32} {v3 : Int32} {m : jMem} {r : (Int32 × jMem)} (h : f_C_split v1 v2 v3 m = some r) : jfr W_C_split m r.2 := by
  unfold f_C_split at h
  have hf : jfr W_C_split m m := jfr_rf
  refine jem (p := v1 < 0) (fun c => ?_) (fun c => ?_)
  · rw [if_pos c] at h
    cases h
    exact hf
  · rw [if_neg c] at h
    refine jem (p := (63 : Int32) < v1) (fun c => ?_) (fun c => ?_)
    · rw [if_pos c] at h
      cases h
      exact hf
    · rw [if_neg c] at h
      refine jem (p := v2 < 0) (fun c => ?_) (fun c => ?_)
      · rw [if_pos c] at h
        cases h
        exact hf
      · rw [if_neg c] at h
        refine jem (p := v3 < v2) (fun c => ?_) (fun c => ?_)
        · rw [if_pos c] at h
          cases h
          exact hf
        · rw [if_neg c] at h
          refine jem (p := v3 < (999 : Int32)) (fun c => ?_) (fun c => ?_)
          · rw [if_pos c] at h
            obtain ⟨u1, m2, zm2, h⟩ := jbd_some h
            replace hf := jfr_tr hf (jfr_sub (W := W_P_setSplit) rfl (fr_P_setSplit zm2))
            cases h
            exact hf
          · rw [if_neg c] at h
            cases h
            exact hf

def W_C_bring : List (Nat × Nat) := [(67, 0), (68, 0), (69, 0), (70, 0), (71, 0), (72, 0), (73, 0), (74, 0)]
theorem fr_C_bring {v1 : Int32} {v2 : Int32} {m : jMem} {r : (Unit × jMem)} (h : f_C_bring v1 v2 m = some r) : jfr W_C_bring m r.2 := by
  unfold f_C_bring at h
  have hf : jfr W_C_bring m m := jfr_rf
  obtain ⟨x1, m2, zm2, h⟩ := jbd_some h
  replace hf := jfr_tr hf (jfr_sub (W := W_C_isWriter) rfl (fr_C_isWriter zm2))
  refine jem (p := x1 = 0) (fun c => ?_) (fun c => ?_)
  · rw [if_pos c] at h
    cases h
    exact hf
  · rw [if_neg c] at h
    obtain ⟨x3, m4, zm4, h⟩ := jbd_some h
    replace hf := jfr_tr hf (jfr_sub (W := W_C_knownTo) rfl (fr_C_knownTo zm4))
    obtain ⟨x5, m6, zm6, h⟩ := jbd_some h
    replace hf := jfr_tr hf (jfr_sub (W := W_C_isIn) rfl (fr_C_isIn zm6))
    refine jem_ne (p := x5 = 0) (fun c => ?_) (fun c => ?_)
    · rw [if_neg c] at h
      cases h
      exact hf
    · rw [if_pos c] at h
      obtain ⟨x7, m8, zm8, h⟩ := jbd_some h
      replace hf := jfr_tr hf (jfr_sub (W := W_D_holds) rfl (fr_D_holds zm8))
      refine jem_ne (p := x7 = 0) (fun c => ?_) (fun c => ?_)
      · rw [if_neg c] at h
        cases h
        exact hf
      · rw [if_pos c] at h
        obtain ⟨u9, m10, zm10, h⟩ := jbd_some h
        replace hf := jfr_tr hf (jfr_sub (W := W_D_put) rfl (fr_D_put zm10))
        cases h
        exact hf

def W_C_bringCopies : List (Nat × Nat) := [(64, 0), (67, 0), (68, 0), (69, 0), (70, 0), (71, 0), (72, 0), (73, 0), (74, 0)]
theorem fr_lp_C_bringCopies_2 {m0 : jMem} (k79 : jMem → Option (Unit × jMem))
    (hk79 : ∀ (m : jMem) (r : (Unit × jMem)), jfr W_C_bringCopies m0 m → k79 m = some r → jfr W_C_bringCopies m0 r.2) : ∀ (n : Nat) (v1 : Int32) (m : jMem) (r : (Unit × jMem)), jfr W_C_bringCopies m0 m → lp_C_bringCopies_2 k79 n v1 m = some r → jfr W_C_bringCopies m0 r.2 := by
  intro n
  induction n with
  | zero => intro v1 m r hf h; unfold lp_C_bringCopies_2 at h; cases h
  | succ n ih =>
    intro v1 m r hf h
    unfold lp_C_bringCopies_2 at h
    refine jem (p := (m 45 10) ≤ v1) (fun c => ?_) (fun c => ?_)
    · rw [if_pos c] at h
      exact hk79  m _ hf h
    · rw [if_neg c] at h
      obtain ⟨x1, ex1, g, h⟩ := jld_some h
      refine jem_ne (p := x1 = 0) (fun c => ?_) (fun c => ?_)
      · rw [if_neg c] at h
        exact ih (v1 + (1 : Int32)) m _ hf h
      · rw [if_pos c] at h
        obtain ⟨x2, ex2, g, h⟩ := jld_some h
        refine jem_ne (p := x2 = (m 1 6)) (fun c => ?_) (fun c => ?_)
        · rw [if_neg c] at h
          exact ih (v1 + (1 : Int32)) m _ hf h
        · rw [if_pos c] at h
          obtain ⟨m3, hm3, g, h⟩ := jst_some h
          replace hf := jfr_tr hf (jfr_ua hm3 rfl)
          obtain ⟨x4, ex4, g, h⟩ := jld_some h
          obtain ⟨x5, ex5, g, h⟩ := jld_some h
          obtain ⟨u6, m7, zm7, h⟩ := jbd_some h
          replace hf := jfr_tr hf (jfr_sub (W := W_C_bring) rfl (fr_C_bring zm7))
          exact ih (v1 + (1 : Int32)) m7 _ hf h
theorem fr_C_bringCopies {m : jMem} {r : (Unit × jMem)} (h : f_C_bringCopies m = some r) : jfr W_C_bringCopies m r.2 := by
  unfold f_C_bringCopies at h
  have hf : jfr W_C_bringCopies m m := jfr_rf
  refine fr_lp_C_bringCopies_2 _ ?_ _ (0 : Int32) m _ hf h
  intro m8 r hf h
  cases h
  exact hf

def W_C_missing : List (Nat × Nat) := []
theorem fr_C_missing {v1 : Int32} {v2 : Int32} {m : jMem} {r : (Int32 × jMem)} (h : f_C_missing v1 v2 m = some r) : jfr W_C_missing m r.2 := by
  unfold f_C_missing at h
  have hf : jfr W_C_missing m m := jfr_rf
  obtain ⟨x1, m2, zm2, h⟩ := jbd_some h
  replace hf := jfr_tr hf (jfr_sub (W := W_C_isWriter) rfl (fr_C_isWriter zm2))
  refine jem (p := x1 = 0) (fun c => ?_) (fun c => ?_)
  · rw [if_pos c] at h
    cases h
    exact hf
  · rw [if_neg c] at h
    obtain ⟨x3, m4, zm4, h⟩ := jbd_some h
    replace hf := jfr_tr hf (jfr_sub (W := W_L_isLetter) rfl (fr_L_isLetter zm4))
    refine jem_ne (p := x3 = 0) (fun c => ?_) (fun c => ?_)
    · rw [if_neg c] at h
      obtain ⟨x5, ex5, g, h⟩ := jld_some h
      obtain ⟨x6, ex6, g, h⟩ := jld_some h
      obtain ⟨g9, h⟩ := jgd_some h
      obtain ⟨q7, m8, zm8, h⟩ := jbd_some h
      replace hf := jfr_tr hf (jfr_sub (W := W_H_ruleOf) rfl (fr_H_ruleOf g9 zm8))
      obtain ⟨g, h⟩ := jgd_some h
      refine jem_ne (p := q7 = 1013) (fun c => ?_) (fun c => ?_)
      · rw [if_neg c] at h
        obtain ⟨g, h⟩ := jgd_some h
        refine jem_ne (p := q7 = 1014) (fun c => ?_) (fun c => ?_)
        · rw [if_neg c] at h
          obtain ⟨g, h⟩ := jgd_some h
          refine jem_ne (p := q7 = 1015) (fun c => ?_) (fun c => ?_)
          · rw [if_neg c] at h
            cases h
            exact hf
          · rw [if_pos c] at h
            obtain ⟨x10, ex10, g, h⟩ := jld_some h
            cases h
            exact hf
        · rw [if_pos c] at h
          obtain ⟨x11, m12, zm12, h⟩ := jbd_some h
          replace hf := jfr_tr hf (jfr_sub (W := W_L_answered) rfl (fr_L_answered zm12))
          cases h
          exact hf
      · rw [if_pos c] at h
        obtain ⟨x13, ex13, g, h⟩ := jld_some h
        obtain ⟨x14, ex14, g, h⟩ := jld_some h
        obtain ⟨x15, m16, zm16, h⟩ := jbd_some h
        replace hf := jfr_tr hf (jfr_sub (W := W_C_bit) rfl (fr_C_bit zm16))
        cases h
        exact hf
    · rw [if_pos c] at h
      cases h
      exact hf

def W_C_firstThatRuleLets : List (Nat × Nat) := []
theorem fr_lp_C_firstThatRuleLets_18 {m0 : jMem} (v1 : Int32) (k50 : Int32 → jMem → Option (Int32 × jMem)) (k58 : jMem → Option (Int32 × jMem))
    (hk50 : ∀ (v3 : Int32) (m : jMem) (r : (Int32 × jMem)), jfr W_C_firstThatRuleLets m0 m → k50 v3 m = some r → jfr W_C_firstThatRuleLets m0 r.2)
    (hk58 : ∀ (m : jMem) (r : (Int32 × jMem)), jfr W_C_firstThatRuleLets m0 m → k58 m = some r → jfr W_C_firstThatRuleLets m0 r.2) : ∀ (n : Nat) (v2 : Int32) (m : jMem) (r : (Int32 × jMem)), jfr W_C_firstThatRuleLets m0 m → lp_C_firstThatRuleLets_18 v1 k50 k58 n v2 m = some r → jfr W_C_firstThatRuleLets m0 r.2 := by
  intro n
  induction n with
  | zero => intro v2 m r hf h; unfold lp_C_firstThatRuleLets_18 at h; cases h
  | succ n ih =>
    intro v2 m r hf h
    unfold lp_C_firstThatRuleLets_18 at h
    obtain ⟨x4, ex4, g, h⟩ := jld_some h
    refine jem (p := x4 ≤ v2) (fun c => ?_) (fun c => ?_)
    · rw [if_pos c] at h
      exact hk58  m _ hf h
    · rw [if_neg c] at h
      obtain ⟨x5, m6, zm6, h⟩ := jbd_some h
      replace hf := jfr_tr hf (jfr_sub (W := W_D_letterAt) rfl (fr_D_letterAt zm6))
      obtain ⟨x7, m8, zm8, h⟩ := jbd_some h
      replace hf := jfr_tr hf (jfr_sub (W := W_C_missing) rfl (fr_C_missing zm8))
      refine jem_ne (p := x7 = 0) (fun c => ?_) (fun c => ?_)
      · rw [if_neg c] at h
        exact ih (v2 + (1 : Int32)) m8 _ hf h
      · rw [if_pos c] at h
        exact hk50 x5 m8 _ hf h
theorem fr_C_firstThatRuleLets {v1 : Int32} {m : jMem} {r : (Int32 × jMem)} (h : f_C_firstThatRuleLets v1 m = some r) : jfr W_C_firstThatRuleLets m r.2 := by
  unfold f_C_firstThatRuleLets at h
  have hf : jfr W_C_firstThatRuleLets m m := jfr_rf
  obtain ⟨g3, h⟩ := jgd_some h
  obtain ⟨q1, m2, zm2, h⟩ := jbd_some h
  replace hf := jfr_tr hf (jfr_sub (W := W_H_ruleOf) rfl (fr_H_ruleOf g3 zm2))
  obtain ⟨g, h⟩ := jgd_some h
  refine jem_ne (p := q1 = 1011) (fun c => ?_) (fun c => ?_)
  · rw [if_neg c] at h
    refine fr_lp_C_firstThatRuleLets_18 v1 _ _ ?_ ?_ _ (0 : Int32) m2 _ hf h
    · intro w10 m9 r hf h
      cases h
      exact hf
    · intro m11 r hf h
      cases h
      exact hf
  · rw [if_pos c] at h
    cases h
    exact hf

def W_C_gatherFacts : List (Nat × Nat) := [(28, 0)]
theorem fr_C_gatherFacts {v1 : Int32} {v2 : Int32} {m : jMem} {r : (Unit × jMem)} (h : f_C_gatherFacts v1 v2 m = some r) : jfr W_C_gatherFacts m r.2 := by
  unfold f_C_gatherFacts at h
  have hf : jfr W_C_gatherFacts m m := jfr_rf
  obtain ⟨x1, ex1, g, h⟩ := jld_some h
  obtain ⟨m2, hm2, g, h⟩ := jst_some h
  replace hf := jfr_tr hf (jfr_ua hm2 rfl)
  obtain ⟨x3, ex3, g, h⟩ := jld_some h
  obtain ⟨m4, hm4, g, h⟩ := jst_some h
  replace hf := jfr_tr hf (jfr_ua hm4 rfl)
  obtain ⟨x5, ex5, g, h⟩ := jld_some h
  obtain ⟨m6, hm6, g, h⟩ := jst_some h
  replace hf := jfr_tr hf (jfr_ua hm6 rfl)
  obtain ⟨x7, m8, zm8, h⟩ := jbd_some h
  replace hf := jfr_tr hf (jfr_sub (W := W_C_knownTo) rfl (fr_C_knownTo zm8))
  obtain ⟨x9, m10, zm10, h⟩ := jbd_some h
  replace hf := jfr_tr hf (jfr_sub (W := W_JI_bitCount) rfl (fr_JI_bitCount zm10))
  obtain ⟨m11, hm11, g, h⟩ := jst_some h
  replace hf := jfr_tr hf (jfr_ua hm11 rfl)
  obtain ⟨x12, ex12, g, h⟩ := jld_some h
  obtain ⟨m13, hm13, g, h⟩ := jst_some h
  replace hf := jfr_tr hf (jfr_ua hm13 rfl)
  obtain ⟨x14, m15, zm15, h⟩ := jbd_some h
  replace hf := jfr_tr hf (jfr_sub (W := W_L_answered) rfl (fr_L_answered zm15))
  obtain ⟨x16, m17, zm17, h⟩ := jbd_some h
  replace hf := jfr_tr hf (jfr_sub (W := W_JI_bitCount) rfl (fr_JI_bitCount zm17))
  obtain ⟨m18, hm18, g, h⟩ := jst_some h
  replace hf := jfr_tr hf (jfr_ua hm18 rfl)
  obtain ⟨x19, ex19, g, h⟩ := jld_some h
  obtain ⟨x20, m21, zm21, h⟩ := jbd_some h
  replace hf := jfr_tr hf (jfr_sub (W := W_JI_bitCount) rfl (fr_JI_bitCount zm21))
  obtain ⟨m22, hm22, g, h⟩ := jst_some h
  replace hf := jfr_tr hf (jfr_ua hm22 rfl)
  cases h
  exact hf

def W_C_takeUp : List (Nat × Nat) := [(11, 0), (20, 0), (28, 0), (29, 16), (29, 17), (30, 0), (31, 0), (32, 0), (33, 0), (34, 0), (35, 0), (36, 0), (37, 0), (38, 0), (39, 0), (40, 0), (41, 0), (42, 0), (43, 0), (45, 11), (60, 0), (61, 0), (62, 0), (63, 0), (64, 0), (67, 0), (68, 0), (69, 0), (70, 0), (71, 0), (72, 0), (73, 0), (74, 0), (75, 0), (77, 0), (78, 0), (79, 0), (80, 0), (81, 0), (82, 0)]
theorem fr_lp_C_takeUp_15 {m0 : jMem} (v1 : Int32) (v2 : Int32) (k118 : jMem → Option (Unit × jMem))
    (hk118 : ∀ (m : jMem) (r : (Unit × jMem)), jfr W_C_takeUp m0 m → k118 m = some r → jfr W_C_takeUp m0 r.2) : ∀ (n : Nat) (v3 : Int32) (m : jMem) (r : (Unit × jMem)), jfr W_C_takeUp m0 m → lp_C_takeUp_15 v1 v2 k118 n v3 m = some r → jfr W_C_takeUp m0 r.2 := by
  intro n
  induction n with
  | zero => intro v3 m r hf h; unfold lp_C_takeUp_15 at h; cases h
  | succ n ih =>
    intro v3 m r hf h
    unfold lp_C_takeUp_15 at h
    obtain ⟨g3, h⟩ := jgd_some h
    refine jem (p := (m (m 1 2).toNatClampNeg 7) ≤ v3) (fun c => ?_) (fun c => ?_)
    · rw [if_pos c] at h
      exact hk118  m _ hf h
    · rw [if_neg c] at h
      obtain ⟨g4, h⟩ := jgd_some h
      obtain ⟨x5, ex5, g, h⟩ := jld_some h
      obtain ⟨x6, m7, zm7, h⟩ := jbd_some h
      replace hf := jfr_tr hf (jfr_sub (W := W_C_isIn) rfl (fr_C_isIn zm7))
      refine jem (p := x6 = 0) (fun c => ?_) (fun c => ?_)
      · rw [if_pos c] at h
        exact ih (v3 + (1 : Int32)) m7 _ hf h
      · rw [if_neg c] at h
        obtain ⟨u8, m9, zm9, h⟩ := jbd_some h
        replace hf := jfr_tr hf (jfr_sub (W := W_C_gatherFacts) rfl (fr_C_gatherFacts zm9))
        obtain ⟨g12, h⟩ := jgd_some h
        obtain ⟨x10, m11, zm11, h⟩ := jbd_some h
        replace hf := jfr_tr hf (jfr_sub (W := W_H_holds) rfl (fr_H_holds g12 zm11))
        refine jem (p := x10 = 0) (fun c => ?_) (fun c => ?_)
        · rw [if_pos c] at h
          exact ih (v3 + (1 : Int32)) m11 _ hf h
        · rw [if_neg c] at h
          obtain ⟨g13, h⟩ := jgd_some h
          obtain ⟨x14, ex14, g, h⟩ := jld_some h
          refine jem (p := x14 = 0) (fun c => ?_) (fun c => ?_)
          · rw [if_pos c] at h
            obtain ⟨x15, ex15, g, h⟩ := jld_some h
            obtain ⟨x16, m17, zm17, h⟩ := jbd_some h
            replace hf := jfr_tr hf (jfr_sub (W := W_C_bit) rfl (fr_C_bit zm17))
            obtain ⟨x18, m19, zm19, h⟩ := jbd_some h
            replace hf := jfr_tr hf (jfr_sub (W := W_C_enter) rfl (fr_C_enter zm19))
            exact ih (v3 + (1 : Int32)) m19 _ hf h
          · rw [if_neg c] at h
            obtain ⟨x20, m21, zm21, h⟩ := jbd_some h
            replace hf := jfr_tr hf (jfr_sub (W := W_C_bit) rfl (fr_C_bit zm21))
            obtain ⟨x22, m23, zm23, h⟩ := jbd_some h
            replace hf := jfr_tr hf (jfr_sub (W := W_C_enter) rfl (fr_C_enter zm23))
            exact ih (v3 + (1 : Int32)) m23 _ hf h
theorem fr_C_takeUp {v1 : Int32} {v2 : Int32} {m : jMem} {r : (Unit × jMem)} (h : f_C_takeUp v1 v2 m = some r) : jfr W_C_takeUp m r.2 := by
  unfold f_C_takeUp at h
  have hf : jfr W_C_takeUp m m := jfr_rf
  obtain ⟨u1, m2, zm2, h⟩ := jbd_some h
  replace hf := jfr_tr hf (jfr_sub (W := W_D_take) rfl (fr_D_take zm2))
  refine fr_lp_C_takeUp_15 v1 v2 _ ?_ _ (0 : Int32) m2 _ hf h
  intro m24 r hf h
  cases h
  exact hf

def W_C_clearDesk : List (Nat × Nat) := [(11, 0), (20, 0), (28, 0), (29, 16), (29, 17), (30, 0), (31, 0), (32, 0), (33, 0), (34, 0), (35, 0), (36, 0), (37, 0), (38, 0), (39, 0), (40, 0), (41, 0), (42, 0), (43, 0), (45, 11), (60, 0), (61, 0), (62, 0), (63, 0), (64, 0), (67, 0), (68, 0), (69, 0), (70, 0), (71, 0), (72, 0), (73, 0), (74, 0), (75, 0), (77, 0), (78, 0), (79, 0), (80, 0), (81, 0), (82, 0)]
theorem fr_lp_C_clearDesk_2 {m0 : jMem} (v1 : Int32) (k19 : jMem → Option (Unit × jMem)) (k32 : jMem → Option (Unit × jMem))
    (hk19 : ∀ (m : jMem) (r : (Unit × jMem)), jfr W_C_clearDesk m0 m → k19 m = some r → jfr W_C_clearDesk m0 r.2)
    (hk32 : ∀ (m : jMem) (r : (Unit × jMem)), jfr W_C_clearDesk m0 m → k32 m = some r → jfr W_C_clearDesk m0 r.2) : ∀ (n : Nat) (v2 : Int32) (m : jMem) (r : (Unit × jMem)), jfr W_C_clearDesk m0 m → lp_C_clearDesk_2 v1 k19 k32 n v2 m = some r → jfr W_C_clearDesk m0 r.2 := by
  intro n
  induction n with
  | zero => intro v2 m r hf h; unfold lp_C_clearDesk_2 at h; cases h
  | succ n ih =>
    intro v2 m r hf h
    unfold lp_C_clearDesk_2 at h
    refine jem (p := (30 : Int32) ≤ v2) (fun c => ?_) (fun c => ?_)
    · rw [if_pos c] at h
      exact hk32  m _ hf h
    · rw [if_neg c] at h
      obtain ⟨x1, m2, zm2, h⟩ := jbd_some h
      replace hf := jfr_tr hf (jfr_sub (W := W_C_firstThatRuleLets) rfl (fr_C_firstThatRuleLets zm2))
      refine jem_ne (p := x1 = (-1 : Int32)) (fun c => ?_) (fun c => ?_)
      · rw [if_neg c] at h
        obtain ⟨u3, m4, zm4, h⟩ := jbd_some h
        replace hf := jfr_tr hf (jfr_sub (W := W_C_takeUp) rfl (fr_C_takeUp zm4))
        exact ih (v2 + (1 : Int32)) m4 _ hf h
      · rw [if_pos c] at h
        exact hk19  m2 _ hf h
theorem fr_C_clearDesk {v1 : Int32} {m : jMem} {r : (Unit × jMem)} (h : f_C_clearDesk v1 m = some r) : jfr W_C_clearDesk m r.2 := by
  unfold f_C_clearDesk at h
  have hf : jfr W_C_clearDesk m m := jfr_rf
  refine fr_lp_C_clearDesk_2 v1 _ _ ?_ ?_ _ (0 : Int32) m _ hf h
  · intro m5 r hf h
    cases h
    exact hf
  · intro m6 r hf h
    cases h
    exact hf

def W_C_days : List (Nat × Nat) := [(1, 7), (11, 0), (20, 0), (28, 0), (29, 16), (29, 17), (30, 0), (31, 0), (32, 0), (33, 0), (34, 0), (35, 0), (36, 0), (37, 0), (38, 0), (39, 0), (40, 0), (41, 0), (42, 0), (43, 0), (45, 11), (60, 0), (61, 0), (62, 0), (63, 0), (64, 0), (67, 0), (68, 0), (69, 0), (70, 0), (71, 0), (72, 0), (73, 0), (74, 0), (75, 0), (77, 0), (78, 0), (79, 0), (80, 0), (81, 0), (82, 0)]
theorem fr_lp_C_days_47 {m0 : jMem} (v1 : Int32) (v2 : Int32) (k64 : jMem → Option (Int32 × jMem))
    (hk64 : ∀ (m : jMem) (r : (Int32 × jMem)), jfr W_C_days m0 m → k64 m = some r → jfr W_C_days m0 r.2) : ∀ (n : Nat) (v3 : Int32) (m : jMem) (r : (Int32 × jMem)), jfr W_C_days m0 m → lp_C_days_47 v1 v2 k64 n v3 m = some r → jfr W_C_days m0 r.2 := by
  intro n
  induction n with
  | zero => intro v3 m r hf h; unfold lp_C_days_47 at h; cases h
  | succ n ih =>
    intro v3 m r hf h
    unfold lp_C_days_47 at h
    refine jem (p := (6 : Int32) ≤ v3) (fun c => ?_) (fun c => ?_)
    · rw [if_pos c] at h
      exact hk64  m _ hf h
    · rw [if_neg c] at h
      obtain ⟨u4, m5, zm5, h⟩ := jbd_some h
      replace hf := jfr_tr hf (jfr_sub (W := W_C_clearDesk) rfl (fr_C_clearDesk zm5))
      exact ih (v3 + (1 : Int32)) m5 _ hf h
theorem fr_lp_C_days_26 {m0 : jMem} (v1 : Int32) (k70 : jMem → Option (Int32 × jMem))
    (hk70 : ∀ (m : jMem) (r : (Int32 × jMem)), jfr W_C_days m0 m → k70 m = some r → jfr W_C_days m0 r.2) : ∀ (n : Nat) (v2 : Int32) (m : jMem) (r : (Int32 × jMem)), jfr W_C_days m0 m → lp_C_days_26 v1 k70 n v2 m = some r → jfr W_C_days m0 r.2 := by
  intro n
  induction n with
  | zero => intro v2 m r hf h; unfold lp_C_days_26 at h; cases h
  | succ n ih =>
    intro v2 m r hf h
    unfold lp_C_days_26 at h
    refine jem (p := v1 ≤ v2) (fun c => ?_) (fun c => ?_)
    · rw [if_pos c] at h
      exact hk70  m _ hf h
    · rw [if_neg c] at h
      obtain ⟨m1, hm1, h⟩ := jpu_some h
      replace hf := jfr_tr hf (jfr_up hm1 rfl)
      obtain ⟨u2, m3, zm3, h⟩ := jbd_some h
      replace hf := jfr_tr hf (jfr_sub (W := W_C_bringCopies) rfl (fr_C_bringCopies zm3))
      refine fr_lp_C_days_47 v1 v2 _ ?_ _ (0 : Int32) m3 _ hf h
      intro m6 r hf h
      exact ih (v2 + (1 : Int32)) m6 _ hf h
theorem fr_C_days {v1 : Int32} {m : jMem} {r : (Int32 × jMem)} (h : f_C_days v1 m = some r) : jfr W_C_days m r.2 := by
  unfold f_C_days at h
  have hf : jfr W_C_days m m := jfr_rf
  refine jem (p := v1 < 0) (fun c => ?_) (fun c => ?_)
  · rw [if_pos c] at h
    cases h
    exact hf
  · rw [if_neg c] at h
    refine jem (p := (99 : Int32) < v1) (fun c => ?_) (fun c => ?_)
    · rw [if_pos c] at h
      cases h
      exact hf
    · rw [if_neg c] at h
      refine jem (p := ((m 1 6) + v1) ≤ (999 : Int32)) (fun c => ?_) (fun c => ?_)
      · rw [if_pos c] at h
        refine fr_lp_C_days_26 v1 _ ?_ _ (0 : Int32) m _ hf h
        intro m7 r hf h
        cases h
        exact hf
      · rw [if_neg c] at h
        cases h
        exact hf

def W_C_read : List (Nat × Nat) := [(11, 0), (20, 0), (28, 0), (29, 16), (29, 17), (30, 0), (31, 0), (32, 0), (33, 0), (34, 0), (35, 0), (36, 0), (37, 0), (38, 0), (39, 0), (40, 0), (41, 0), (42, 0), (43, 0), (45, 11), (60, 0), (61, 0), (62, 0), (63, 0), (64, 0), (67, 0), (68, 0), (69, 0), (70, 0), (71, 0), (72, 0), (73, 0), (74, 0), (75, 0), (77, 0), (78, 0), (79, 0), (80, 0), (81, 0), (82, 0)]
theorem fr_C_read {v1 : Int32} {v2 : Int32} {m : jMem} {r : (Int32 × jMem)} (h : f_C_read v1 v2 m = some r) : jfr W_C_read m r.2 := by
  unfold f_C_read at h
  have hf : jfr W_C_read m m := jfr_rf
  obtain ⟨x1, m2, zm2, h⟩ := jbd_some h
  replace hf := jfr_tr hf (jfr_sub (W := W_D_holds) rfl (fr_D_holds zm2))
  refine jem_ne (p := x1 = 0) (fun c => ?_) (fun c => ?_)
  · rw [if_neg c] at h
    obtain ⟨u3, m4, zm4, h⟩ := jbd_some h
    replace hf := jfr_tr hf (jfr_sub (W := W_C_takeUp) rfl (fr_C_takeUp zm4))
    obtain ⟨x5, ex5, g, h⟩ := jld_some h
    cases h
    exact hf
  · rw [if_pos c] at h
    cases h
    exact hf

def W_C_copy : List (Nat × Nat) := []
theorem fr_C_copy {v1 : Int32} {v2 : Int32} {m : jMem} {r : (Int32 × jMem)} (h : f_C_copy v1 v2 m = some r) : jfr W_C_copy m r.2 := by
  unfold f_C_copy at h
  have hf : jfr W_C_copy m m := jfr_rf
  obtain ⟨x1, m2, zm2, h⟩ := jbd_some h
  replace hf := jfr_tr hf (jfr_sub (W := W_P_isCopy) rfl (fr_P_isCopy zm2))
  refine jem_ne (p := x1 = 0) (fun c => ?_) (fun c => ?_)
  · rw [if_neg c] at h
    by_cases c0 : v2 = (0 : Int32)
    · rw [if_pos c0] at h
      obtain ⟨x6, ex6, g, h⟩ := jld_some h
      cases h
      exact hf
    · rw [if_neg c0] at h
      by_cases c1 : v2 = (1 : Int32)
      · rw [if_pos c1] at h
        obtain ⟨x5, ex5, g, h⟩ := jld_some h
        cases h
        exact hf
      · rw [if_neg c1] at h
        by_cases c2 : v2 = (2 : Int32)
        · rw [if_pos c2] at h
          obtain ⟨x4, ex4, g, h⟩ := jld_some h
          cases h
          exact hf
        · rw [if_neg c2] at h
          by_cases c3 : v2 = (3 : Int32)
          · rw [if_pos c3] at h
            obtain ⟨x3, ex3, g, h⟩ := jld_some h
            cases h
            exact hf
          · rw [if_neg c3] at h
            cases h
            exact hf
  · rw [if_pos c] at h
    cases h
    exact hf

def W_C_desk : List (Nat × Nat) := []
theorem fr_C_desk {v1 : Int32} {v2 : Int32} {m : jMem} {r : (Int32 × jMem)} (h : f_C_desk v1 v2 m = some r) : jfr W_C_desk m r.2 := by
  unfold f_C_desk at h
  have hf : jfr W_C_desk m m := jfr_rf
  obtain ⟨x1, m2, zm2, h⟩ := jbd_some h
  replace hf := jfr_tr hf (jfr_sub (W := W_C_isWriter) rfl (fr_C_isWriter zm2))
  refine jem (p := x1 = 0) (fun c => ?_) (fun c => ?_)
  · rw [if_pos c] at h
    cases h
    exact hf
  · rw [if_neg c] at h
    refine jem (p := v2 < 0) (fun c => ?_) (fun c => ?_)
    · rw [if_pos c] at h
      cases h
      exact hf
    · rw [if_neg c] at h
      obtain ⟨x3, ex3, g, h⟩ := jld_some h
      refine jem (p := v2 < x3) (fun c => ?_) (fun c => ?_)
      · rw [if_pos c] at h
        obtain ⟨x4, m5, zm5, h⟩ := jbd_some h
        replace hf := jfr_tr hf (jfr_sub (W := W_D_letterAt) rfl (fr_D_letterAt zm5))
        cases h
        exact hf
      · rw [if_neg c] at h
        cases h
        exact hf

def W_C_before : List (Nat × Nat) := []
theorem fr_C_before {v1 : Int32} {v2 : Int32} {m : jMem} {r : (Int32 × jMem)} (h : f_C_before v1 v2 m = some r) : jfr W_C_before m r.2 := by
  unfold f_C_before at h
  have hf : jfr W_C_before m m := jfr_rf
  obtain ⟨x1, m2, zm2, h⟩ := jbd_some h
  replace hf := jfr_tr hf (jfr_sub (W := W_L_areTwo) rfl (fr_L_areTwo zm2))
  refine jem_ne (p := x1 = 0) (fun c => ?_) (fun c => ?_)
  · rw [if_neg c] at h
    obtain ⟨x3, ex3, g, h⟩ := jld_some h
    obtain ⟨x4, m5, zm5, h⟩ := jbd_some h
    replace hf := jfr_tr hf (jfr_sub (W := W_C_isIn) rfl (fr_C_isIn zm5))
    refine jem (p := x4 = 0) (fun c => ?_) (fun c => ?_)
    · rw [if_pos c] at h
      obtain ⟨x6, ex6, g, h⟩ := jld_some h
      obtain ⟨x7, m8, zm8, h⟩ := jbd_some h
      replace hf := jfr_tr hf (jfr_sub (W := W_C_isIn) rfl (fr_C_isIn zm8))
      refine jem (p := x7 = 0) (fun c => ?_) (fun c => ?_)
      · rw [if_pos c] at h
        cases h
        exact hf
      · rw [if_neg c] at h
        cases h
        exact hf
    · rw [if_neg c] at h
      cases h
      exact hf
  · rw [if_pos c] at h
    cases h
    exact hf

def W_C_path : List (Nat × Nat) := [(44, 0)]
theorem fr_C_path {v1 : Int32} {v2 : Int32} {v3 : Int32} {m : jMem} {r : (Int32 × jMem)} (h : f_C_path v1 v2 v3 m = some r) : jfr W_C_path m r.2 := by
  unfold f_C_path at h
  have hf : jfr W_C_path m m := jfr_rf
  obtain ⟨x1, m2, zm2, h⟩ := jbd_some h
  replace hf := jfr_tr hf (jfr_sub (W := W_L_areTwo) rfl (fr_L_areTwo zm2))
  refine jem (p := x1 = 0) (fun c => ?_) (fun c => ?_)
  · rw [if_pos c] at h
    cases h
    exact hf
  · rw [if_neg c] at h
    obtain ⟨x3, ex3, g, h⟩ := jld_some h
    obtain ⟨x4, m5, zm5, h⟩ := jbd_some h
    replace hf := jfr_tr hf (jfr_sub (W := W_C_isIn) rfl (fr_C_isIn zm5))
    refine jem (p := x4 = 0) (fun c => ?_) (fun c => ?_)
    · rw [if_pos c] at h
      cases h
      exact hf
    · rw [if_neg c] at h
      refine jem (p := 0 ≤ v3) (fun c => ?_) (fun c => ?_)
      · rw [if_pos c] at h
        obtain ⟨x6, m7, zm7, h⟩ := jbd_some h
        replace hf := jfr_tr hf (jfr_sub (W := W_L_onShortestWay) rfl (fr_L_onShortestWay zm7))
        cases h
        exact hf
      · rw [if_neg c] at h
        cases h
        exact hf

def W_C_sum : List (Nat × Nat) := []
theorem fr_C_sum {v1 : Int32} {m : jMem} {r : (Int32 × jMem)} (h : f_C_sum v1 m = some r) : jfr W_C_sum m r.2 := by
  unfold f_C_sum at h
  have hf : jfr W_C_sum m m := jfr_rf
  obtain ⟨x1, m2, zm2, h⟩ := jbd_some h
  replace hf := jfr_tr hf (jfr_sub (W := W_L_isLetter) rfl (fr_L_isLetter zm2))
  refine jem (p := x1 = 0) (fun c => ?_) (fun c => ?_)
  · rw [if_pos c] at h
    cases h
    exact hf
  · rw [if_neg c] at h
    obtain ⟨x3, ex3, g, h⟩ := jld_some h
    cases h
    exact hf

def W_C_number : List (Nat × Nat) := []
theorem fr_C_number {v1 : Int32} {v2 : Int32} {m : jMem} {r : (Int32 × jMem)} (h : f_C_number v1 v2 m = some r) : jfr W_C_number m r.2 := by
  unfold f_C_number at h
  have hf : jfr W_C_number m m := jfr_rf
  obtain ⟨x1, m2, zm2, h⟩ := jbd_some h
  replace hf := jfr_tr hf (jfr_sub (W := W_L_isLetter) rfl (fr_L_isLetter zm2))
  refine jem (p := x1 = 0) (fun c => ?_) (fun c => ?_)
  · rw [if_pos c] at h
    cases h
    exact hf
  · rw [if_neg c] at h
    obtain ⟨x3, m4, zm4, h⟩ := jbd_some h
    replace hf := jfr_tr hf (jfr_sub (W := W_C_isWriter) rfl (fr_C_isWriter zm4))
    refine jem_ne (p := x3 = 0) (fun c => ?_) (fun c => ?_)
    · rw [if_neg c] at h
      obtain ⟨x5, m6, zm6, h⟩ := jbd_some h
      replace hf := jfr_tr hf (jfr_sub (W := W_L_numberFor) rfl (fr_L_numberFor zm6))
      cases h
      exact hf
    · rw [if_pos c] at h
      cases h
      exact hf

def W_C_pair : List (Nat × Nat) := []
theorem fr_C_pair {v1 : Int32} {v2 : Int32} {v3 : Int32} {m : jMem} {r : (Int32 × jMem)} (h : f_C_pair v1 v2 v3 m = some r) : jfr W_C_pair m r.2 := by
  unfold f_C_pair at h
  have hf : jfr W_C_pair m m := jfr_rf
  obtain ⟨x1, m2, zm2, h⟩ := jbd_some h
  replace hf := jfr_tr hf (jfr_sub (W := W_L_isLetter) rfl (fr_L_isLetter zm2))
  refine jem (p := x1 = 0) (fun c => ?_) (fun c => ?_)
  · rw [if_pos c] at h
    cases h
    exact hf
  · rw [if_neg c] at h
    obtain ⟨x3, m4, zm4, h⟩ := jbd_some h
    replace hf := jfr_tr hf (jfr_sub (W := W_C_isWriter) rfl (fr_C_isWriter zm4))
    refine jem (p := x3 = 0) (fun c => ?_) (fun c => ?_)
    · rw [if_pos c] at h
      cases h
      exact hf
    · rw [if_neg c] at h
      obtain ⟨x5, m6, zm6, h⟩ := jbd_some h
      replace hf := jfr_tr hf (jfr_sub (W := W_C_isWriter) rfl (fr_C_isWriter zm6))
      refine jem_ne (p := x5 = 0) (fun c => ?_) (fun c => ?_)
      · rw [if_neg c] at h
        obtain ⟨x7, m8, zm8, h⟩ := jbd_some h
        replace hf := jfr_tr hf (jfr_sub (W := W_L_numberOfNumber) rfl (fr_L_numberOfNumber zm8))
        cases h
        exact hf
      · rw [if_pos c] at h
        cases h
        exact hf

def W_C_list : List (Nat × Nat) := []
theorem fr_C_list {v1 : Int32} {m : jMem} {r : (Int32 × jMem)} (h : f_C_list v1 m = some r) : jfr W_C_list m r.2 := by
  unfold f_C_list at h
  have hf : jfr W_C_list m m := jfr_rf
  obtain ⟨x1, m2, zm2, h⟩ := jbd_some h
  replace hf := jfr_tr hf (jfr_sub (W := W_L_isLetter) rfl (fr_L_isLetter zm2))
  refine jem (p := x1 = 0) (fun c => ?_) (fun c => ?_)
  · rw [if_pos c] at h
    cases h
    exact hf
  · rw [if_neg c] at h
    obtain ⟨x3, ex3, g, h⟩ := jld_some h
    cases h
    exact hf

def W_C_tells : List (Nat × Nat) := []
theorem fr_C_tells {v1 : Int32} {v2 : Int32} {v3 : Int32} {m : jMem} {r : (Int32 × jMem)} (h : f_C_tells v1 v2 v3 m = some r) : jfr W_C_tells m r.2 := by
  unfold f_C_tells at h
  have hf : jfr W_C_tells m m := jfr_rf
  obtain ⟨x1, m2, zm2, h⟩ := jbd_some h
  replace hf := jfr_tr hf (jfr_sub (W := W_L_areTwo) rfl (fr_L_areTwo zm2))
  refine jem (p := x1 = 0) (fun c => ?_) (fun c => ?_)
  · rw [if_pos c] at h
    cases h
    exact hf
  · rw [if_neg c] at h
    obtain ⟨x3, m4, zm4, h⟩ := jbd_some h
    replace hf := jfr_tr hf (jfr_sub (W := W_C_isBearing) rfl (fr_C_isBearing zm4))
    refine jem_ne (p := x3 = 0) (fun c => ?_) (fun c => ?_)
    · rw [if_neg c] at h
      obtain ⟨x5, m6, zm6, h⟩ := jbd_some h
      replace hf := jfr_tr hf (jfr_sub (W := W_L_isTold) rfl (fr_L_isTold zm6))
      obtain ⟨x7, m8, zm8, h⟩ := jbd_some h
      replace hf := jfr_tr hf (jfr_sub (W := W_C_truth) rfl (fr_C_truth zm8))
      cases h
      exact hf
    · rw [if_pos c] at h
      cases h
      exact hf

def W_C_errs : List (Nat × Nat) := []
theorem fr_C_errs {v1 : Int32} {m : jMem} {r : (Int32 × jMem)} (h : f_C_errs v1 m = some r) : jfr W_C_errs m r.2 := by
  unfold f_C_errs at h
  have hf : jfr W_C_errs m m := jfr_rf
  obtain ⟨x1, m2, zm2, h⟩ := jbd_some h
  replace hf := jfr_tr hf (jfr_sub (W := W_C_isBearing) rfl (fr_C_isBearing zm2))
  refine jem (p := x1 = 0) (fun c => ?_) (fun c => ?_)
  · rw [if_pos c] at h
    cases h
    exact hf
  · rw [if_neg c] at h
    obtain ⟨x3, m4, zm4, h⟩ := jbd_some h
    replace hf := jfr_tr hf (jfr_sub (W := W_L_toldWrongly) rfl (fr_L_toldWrongly zm4))
    cases h
    exact hf

def W_C_chains : List (Nat × Nat) := [(85, 0), (86, 0), (87, 0), (88, 0)]
theorem fr_C_chains {v1 : Int32} {m : jMem} {r : (Int32 × jMem)} (h : f_C_chains v1 m = some r) : jfr W_C_chains m r.2 := by
  unfold f_C_chains at h
  have hf : jfr W_C_chains m m := jfr_rf
  obtain ⟨x1, m2, zm2, h⟩ := jbd_some h
  replace hf := jfr_tr hf (jfr_sub (W := W_L_isSet) rfl (fr_L_isSet zm2))
  refine jem (p := x1 = 0) (fun c => ?_) (fun c => ?_)
  · rw [if_pos c] at h
    cases h
    exact hf
  · rw [if_neg c] at h
    obtain ⟨x3, m4, zm4, h⟩ := jbd_some h
    replace hf := jfr_tr hf (jfr_sub (W := W_N_fewest) rfl (fr_N_fewest zm4))
    cases h
    exact hf

def W_C_waits : List (Nat × Nat) := []
theorem fr_C_waits {v1 : Int32} {v2 : Int32} {m : jMem} {r : (Int32 × jMem)} (h : f_C_waits v1 v2 m = some r) : jfr W_C_waits m r.2 := by
  unfold f_C_waits at h
  have hf : jfr W_C_waits m m := jfr_rf
  obtain ⟨x1, m2, zm2, h⟩ := jbd_some h
  replace hf := jfr_tr hf (jfr_sub (W := W_D_holds) rfl (fr_D_holds zm2))
  refine jem (p := x1 = 0) (fun c => ?_) (fun c => ?_)
  · rw [if_pos c] at h
    cases h
    exact hf
  · rw [if_neg c] at h
    obtain ⟨x3, m4, zm4, h⟩ := jbd_some h
    replace hf := jfr_tr hf (jfr_sub (W := W_C_missing) rfl (fr_C_missing zm4))
    cases h
    exact hf

def W_C_ever : List (Nat × Nat) := []
theorem fr_lp_C_ever_33 {m0 : jMem} (v1 : Int32) (v2 : Int32) (k97 : Int32 → jMem → Option (Int32 × jMem))
    (hk97 : ∀ (v3 : Int32) (m : jMem) (r : (Int32 × jMem)), jfr W_C_ever m0 m → k97 v3 m = some r → jfr W_C_ever m0 r.2) : ∀ (n : Nat) (v3 : Int32) (v4 : Int32) (m : jMem) (r : (Int32 × jMem)), jfr W_C_ever m0 m → lp_C_ever_33 v1 v2 k97 n v3 v4 m = some r → jfr W_C_ever m0 r.2 := by
  intro n
  induction n with
  | zero => intro v3 v4 m r hf h; unfold lp_C_ever_33 at h; cases h
  | succ n ih =>
    intro v3 v4 m r hf h
    unfold lp_C_ever_33 at h
    refine jem (p := (m 29 15) ≤ v4) (fun c => ?_) (fun c => ?_)
    · rw [if_pos c] at h
      exact hk97 v3 m _ hf h
    · rw [if_neg c] at h
      obtain ⟨x6, m7, zm7, h⟩ := jbd_some h
      replace hf := jfr_tr hf (jfr_sub (W := W_D_holds) rfl (fr_D_holds zm7))
      refine jem (p := x6 = 0) (fun c => ?_) (fun c => ?_)
      · rw [if_pos c] at h
        exact ih v3 (v4 + (1 : Int32)) m7 _ hf h
      · rw [if_neg c] at h
        obtain ⟨x8, m9, zm9, h⟩ := jbd_some h
        replace hf := jfr_tr hf (jfr_sub (W := W_C_missing) rfl (fr_C_missing zm9))
        refine jem_ne (p := (x8 &&& (v2 ^^^ (-1 : Int32))) = 0) (fun c => ?_) (fun c => ?_)
        · rw [if_neg c] at h
          obtain ⟨x10, m11, zm11, h⟩ := jbd_some h
          replace hf := jfr_tr hf (jfr_sub (W := W_C_bit) rfl (fr_C_bit zm11))
          exact ih (v3 ||| x10) (v4 + (1 : Int32)) m11 _ hf h
        · rw [if_pos c] at h
          refine jem (p := (x8 &&& v3) = 0) (fun c => ?_) (fun c => ?_)
          · rw [if_pos c] at h
            exact ih v3 (v4 + (1 : Int32)) m9 _ hf h
          · rw [if_neg c] at h
            obtain ⟨x12, m13, zm13, h⟩ := jbd_some h
            replace hf := jfr_tr hf (jfr_sub (W := W_C_bit) rfl (fr_C_bit zm13))
            exact ih (v3 ||| x12) (v4 + (1 : Int32)) m13 _ hf h
theorem fr_C_ever {v1 : Int32} {m : jMem} {r : (Int32 × jMem)} (h : f_C_ever v1 m = some r) : jfr W_C_ever m r.2 := by
  unfold f_C_ever at h
  have hf : jfr W_C_ever m m := jfr_rf
  obtain ⟨x1, m2, zm2, h⟩ := jbd_some h
  replace hf := jfr_tr hf (jfr_sub (W := W_C_isWriter) rfl (fr_C_isWriter zm2))
  refine jem_ne (p := x1 = 0) (fun c => ?_) (fun c => ?_)
  · rw [if_neg c] at h
    obtain ⟨x3, ex3, g, h⟩ := jld_some h
    obtain ⟨x4, m5, zm5, h⟩ := jbd_some h
    replace hf := jfr_tr hf (jfr_sub (W := W_P_onTheWayTo) rfl (fr_P_onTheWayTo zm5))
    refine fr_lp_C_ever_33 v1 (x3 ||| x4) _ ?_ _ (0 : Int32) (0 : Int32) m5 _ hf h
    intro w15 m14 r hf h
    cases h
    exact hf
  · rw [if_pos c] at h
    cases h
    exact hf

def W_C_dayKnown : List (Nat × Nat) := []
theorem fr_C_dayKnown {v1 : Int32} {v2 : Int32} {m : jMem} {r : (Int32 × jMem)} (h : f_C_dayKnown v1 v2 m = some r) : jfr W_C_dayKnown m r.2 := by
  unfold f_C_dayKnown at h
  have hf : jfr W_C_dayKnown m m := jfr_rf
  obtain ⟨x1, ex1, g, h⟩ := jld_some h
  refine jem_ne (p := x1 = v1) (fun c => ?_) (fun c => ?_)
  · rw [if_neg c] at h
    obtain ⟨x2, ex2, g, h⟩ := jld_some h
    obtain ⟨x3, m4, zm4, h⟩ := jbd_some h
    replace hf := jfr_tr hf (jfr_sub (W := W_C_isIn) rfl (fr_C_isIn zm4))
    refine jem (p := x3 = 0) (fun c => ?_) (fun c => ?_)
    · rw [if_pos c] at h
      cases h
      exact hf
    · rw [if_neg c] at h
      obtain ⟨q5, eq5, gq5, h⟩ := jl3_some h
      obtain ⟨x6, ex6, g, h⟩ := jld_some h
      cases h
      exact hf
  · rw [if_pos c] at h
    obtain ⟨x7, ex7, g, h⟩ := jld_some h
    cases h
    exact hf

def W_C_whoKnewBy : List (Nat × Nat) := []
theorem fr_lp_C_whoKnewBy_5 {m0 : jMem} (v1 : Int32) (v2 : Int32) (k47 : Int32 → jMem → Option (Int32 × jMem))
    (hk47 : ∀ (v3 : Int32) (m : jMem) (r : (Int32 × jMem)), jfr W_C_whoKnewBy m0 m → k47 v3 m = some r → jfr W_C_whoKnewBy m0 r.2) : ∀ (n : Nat) (v3 : Int32) (v4 : Int32) (m : jMem) (r : (Int32 × jMem)), jfr W_C_whoKnewBy m0 m → lp_C_whoKnewBy_5 v1 v2 k47 n v3 v4 m = some r → jfr W_C_whoKnewBy m0 r.2 := by
  intro n
  induction n with
  | zero => intro v3 v4 m r hf h; unfold lp_C_whoKnewBy_5 at h; cases h
  | succ n ih =>
    intro v3 v4 m r hf h
    unfold lp_C_whoKnewBy_5 at h
    refine jem (p := (6 : Int32) ≤ v4) (fun c => ?_) (fun c => ?_)
    · rw [if_pos c] at h
      exact hk47 v3 m _ hf h
    · rw [if_neg c] at h
      obtain ⟨x1, m2, zm2, h⟩ := jbd_some h
      replace hf := jfr_tr hf (jfr_sub (W := W_C_dayKnown) rfl (fr_C_dayKnown zm2))
      refine jem (p := x1 = (-1 : Int32)) (fun c => ?_) (fun c => ?_)
      · rw [if_pos c] at h
        exact ih v3 (v4 + (1 : Int32)) m2 _ hf h
      · rw [if_neg c] at h
        refine jem (p := v2 < x1) (fun c => ?_) (fun c => ?_)
        · rw [if_pos c] at h
          exact ih v3 (v4 + (1 : Int32)) m2 _ hf h
        · rw [if_neg c] at h
          obtain ⟨x3, m4, zm4, h⟩ := jbd_some h
          replace hf := jfr_tr hf (jfr_sub (W := W_C_bit) rfl (fr_C_bit zm4))
          exact ih (v3 ||| x3) (v4 + (1 : Int32)) m4 _ hf h
theorem fr_C_whoKnewBy {v1 : Int32} {v2 : Int32} {m : jMem} {r : (Int32 × jMem)} (h : f_C_whoKnewBy v1 v2 m = some r) : jfr W_C_whoKnewBy m r.2 := by
  unfold f_C_whoKnewBy at h
  have hf : jfr W_C_whoKnewBy m m := jfr_rf
  refine fr_lp_C_whoKnewBy_5 v1 v2 _ ?_ _ (0 : Int32) (0 : Int32) m _ hf h
  intro w6 m5 r hf h
  cases h
  exact hf

def W_C_has : List (Nat × Nat) := []
theorem fr_C_has {v1 : Int32} {m : jMem} {r : (Int32 × jMem)} (h : f_C_has v1 m = some r) : jfr W_C_has m r.2 := by
  unfold f_C_has at h
  have hf : jfr W_C_has m m := jfr_rf
  obtain ⟨x1, m2, zm2, h⟩ := jbd_some h
  replace hf := jfr_tr hf (jfr_sub (W := W_L_isLetter) rfl (fr_L_isLetter zm2))
  refine jem (p := x1 = 0) (fun c => ?_) (fun c => ?_)
  · rw [if_pos c] at h
    cases h
    exact hf
  · rw [if_neg c] at h
    obtain ⟨x3, m4, zm4, h⟩ := jbd_some h
    replace hf := jfr_tr hf (jfr_sub (W := W_C_whoKnewBy) rfl (fr_C_whoKnewBy zm4))
    cases h
    exact hf

def W_C_readOn : List (Nat × Nat) := []
theorem fr_C_readOn {v1 : Int32} {v2 : Int32} {m : jMem} {r : (Int32 × jMem)} (h : f_C_readOn v1 v2 m = some r) : jfr W_C_readOn m r.2 := by
  unfold f_C_readOn at h
  have hf : jfr W_C_readOn m m := jfr_rf
  obtain ⟨x1, m2, zm2, h⟩ := jbd_some h
  replace hf := jfr_tr hf (jfr_sub (W := W_C_isWriter) rfl (fr_C_isWriter zm2))
  refine jem (p := x1 = 0) (fun c => ?_) (fun c => ?_)
  · rw [if_pos c] at h
    cases h
    exact hf
  · rw [if_neg c] at h
    obtain ⟨x3, m4, zm4, h⟩ := jbd_some h
    replace hf := jfr_tr hf (jfr_sub (W := W_L_isLetter) rfl (fr_L_isLetter zm4))
    refine jem_ne (p := x3 = 0) (fun c => ?_) (fun c => ?_)
    · rw [if_neg c] at h
      obtain ⟨x5, m6, zm6, h⟩ := jbd_some h
      replace hf := jfr_tr hf (jfr_sub (W := W_C_dayKnown) rfl (fr_C_dayKnown zm6))
      cases h
      exact hf
    · rw [if_pos c] at h
      cases h
      exact hf

def W_C_spread : List (Nat × Nat) := []
theorem fr_C_spread {v1 : Int32} {v2 : Int32} {m : jMem} {r : (Int32 × jMem)} (h : f_C_spread v1 v2 m = some r) : jfr W_C_spread m r.2 := by
  unfold f_C_spread at h
  have hf : jfr W_C_spread m m := jfr_rf
  obtain ⟨x1, m2, zm2, h⟩ := jbd_some h
  replace hf := jfr_tr hf (jfr_sub (W := W_L_isLetter) rfl (fr_L_isLetter zm2))
  refine jem (p := x1 = 0) (fun c => ?_) (fun c => ?_)
  · rw [if_pos c] at h
    cases h
    exact hf
  · rw [if_neg c] at h
    refine jem (p := v2 < 0) (fun c => ?_) (fun c => ?_)
    · rw [if_pos c] at h
      cases h
      exact hf
    · rw [if_neg c] at h
      refine jem (p := v2 ≤ (999 : Int32)) (fun c => ?_) (fun c => ?_)
      · rw [if_pos c] at h
        obtain ⟨x3, m4, zm4, h⟩ := jbd_some h
        replace hf := jfr_tr hf (jfr_sub (W := W_C_whoKnewBy) rfl (fr_C_whoKnewBy zm4))
        cases h
        exact hf
      · rw [if_neg c] at h
        cases h
        exact hf

def W_C_all : List (Nat × Nat) := []
theorem fr_lp_C_all_17 {m0 : jMem} (v1 : Int32) (k53 : jMem → Option (Int32 × jMem)) (k68 : Int32 → jMem → Option (Int32 × jMem))
    (hk53 : ∀ (m : jMem) (r : (Int32 × jMem)), jfr W_C_all m0 m → k53 m = some r → jfr W_C_all m0 r.2)
    (hk68 : ∀ (v2 : Int32) (m : jMem) (r : (Int32 × jMem)), jfr W_C_all m0 m → k68 v2 m = some r → jfr W_C_all m0 r.2) : ∀ (n : Nat) (v2 : Int32) (v3 : Int32) (m : jMem) (r : (Int32 × jMem)), jfr W_C_all m0 m → lp_C_all_17 v1 k53 k68 n v2 v3 m = some r → jfr W_C_all m0 r.2 := by
  intro n
  induction n with
  | zero => intro v2 v3 m r hf h; unfold lp_C_all_17 at h; cases h
  | succ n ih =>
    intro v2 v3 m r hf h
    unfold lp_C_all_17 at h
    refine jem (p := (6 : Int32) ≤ v3) (fun c => ?_) (fun c => ?_)
    · rw [if_pos c] at h
      exact hk68 v2 m _ hf h
    · rw [if_neg c] at h
      obtain ⟨x3, ex3, g, h⟩ := jld_some h
      obtain ⟨x4, m5, zm5, h⟩ := jbd_some h
      replace hf := jfr_tr hf (jfr_sub (W := W_C_isIn) rfl (fr_C_isIn zm5))
      refine jem (p := x4 = 0) (fun c => ?_) (fun c => ?_)
      · rw [if_pos c] at h
        exact ih v2 (v3 + (1 : Int32)) m5 _ hf h
      · rw [if_neg c] at h
        obtain ⟨x6, m7, zm7, h⟩ := jbd_some h
        replace hf := jfr_tr hf (jfr_sub (W := W_C_dayKnown) rfl (fr_C_dayKnown zm7))
        refine jem_ne (p := x6 = (-1 : Int32)) (fun c => ?_) (fun c => ?_)
        · rw [if_neg c] at h
          exact ih (jmax v2 x6) (v3 + (1 : Int32)) m7 _ hf h
        · rw [if_pos c] at h
          exact hk53  m7 _ hf h
theorem fr_C_all {v1 : Int32} {m : jMem} {r : (Int32 × jMem)} (h : f_C_all v1 m = some r) : jfr W_C_all m r.2 := by
  unfold f_C_all at h
  have hf : jfr W_C_all m m := jfr_rf
  obtain ⟨x1, m2, zm2, h⟩ := jbd_some h
  replace hf := jfr_tr hf (jfr_sub (W := W_L_isLetter) rfl (fr_L_isLetter zm2))
  refine jem_ne (p := x1 = 0) (fun c => ?_) (fun c => ?_)
  · rw [if_neg c] at h
    refine fr_lp_C_all_17 v1 _ _ ?_ ?_ _ (0 : Int32) (0 : Int32) m2 _ hf h
    · intro m8 r hf h
      cases h
      exact hf
    · intro w10 m9 r hf h
      cases h
      exact hf
  · rw [if_pos c] at h
    cases h
    exact hf

def W_C_burn : List (Nat × Nat) := [(29, 17)]
theorem fr_C_burn {v1 : Int32} {m : jMem} {r : (Int32 × jMem)} (h : f_C_burn v1 m = some r) : jfr W_C_burn m r.2 := by
  unfold f_C_burn at h
  have hf : jfr W_C_burn m m := jfr_rf
  obtain ⟨x1, m2, zm2, h⟩ := jbd_some h
  replace hf := jfr_tr hf (jfr_sub (W := W_L_isLeft) rfl (fr_L_isLeft zm2))
  refine jem_ne (p := x1 = 0) (fun c => ?_) (fun c => ?_)
  · rw [if_neg c] at h
    obtain ⟨x3, m4, zm4, h⟩ := jbd_some h
    replace hf := jfr_tr hf (jfr_sub (W := W_C_bit) rfl (fr_C_bit zm4))
    obtain ⟨m5, hm5, h⟩ := jpu_some h
    replace hf := jfr_tr hf (jfr_up hm5 rfl)
    obtain ⟨x6, m7, zm7, h⟩ := jbd_some h
    replace hf := jfr_tr hf (jfr_sub (W := W_JI_bitCount) rfl (fr_JI_bitCount zm7))
    cases h
    exact hf
  · rw [if_pos c] at h
    cases h
    exact hf

def W_C_could : List (Nat × Nat) := []
theorem fr_C_could {v1 : Int32} {v2 : Int32} {m : jMem} {r : (Int32 × jMem)} (h : f_C_could v1 v2 m = some r) : jfr W_C_could m r.2 := by
  unfold f_C_could at h
  have hf : jfr W_C_could m m := jfr_rf
  refine jem (p := v1 = v2) (fun c => ?_) (fun c => ?_)
  · rw [if_pos c] at h
    cases h
    exact hf
  · rw [if_neg c] at h
    obtain ⟨x1, m2, zm2, h⟩ := jbd_some h
    replace hf := jfr_tr hf (jfr_sub (W := W_L_isLeft) rfl (fr_L_isLeft zm2))
    refine jem (p := x1 = 0) (fun c => ?_) (fun c => ?_)
    · rw [if_pos c] at h
      cases h
      exact hf
    · rw [if_neg c] at h
      obtain ⟨x3, m4, zm4, h⟩ := jbd_some h
      replace hf := jfr_tr hf (jfr_sub (W := W_L_isLeft) rfl (fr_L_isLeft zm4))
      refine jem_ne (p := x3 = 0) (fun c => ?_) (fun c => ?_)
      · rw [if_neg c] at h
        obtain ⟨x5, m6, zm6, h⟩ := jbd_some h
        replace hf := jfr_tr hf (jfr_sub (W := W_L_citesThroughLeft) rfl (fr_L_citesThroughLeft zm6))
        refine jem (p := x5 = 0) (fun c => ?_) (fun c => ?_)
        · rw [if_pos c] at h
          obtain ⟨x7, m8, zm8, h⟩ := jbd_some h
          replace hf := jfr_tr hf (jfr_sub (W := W_U_mayHaveKnown) rfl (fr_U_mayHaveKnown zm8))
          obtain ⟨x9, m10, zm10, h⟩ := jbd_some h
          replace hf := jfr_tr hf (jfr_sub (W := W_C_truth) rfl (fr_C_truth zm10))
          cases h
          exact hf
        · rw [if_neg c] at h
          cases h
          exact hf
      · rw [if_pos c] at h
        cases h
        exact hf

def W_C_forged : List (Nat × Nat) := []
theorem fr_C_forged {v1 : Int32} {v2 : Int32} {v3 : Int32} {m : jMem} {r : (Int32 × jMem)} (h : f_C_forged v1 v2 v3 m = some r) : jfr W_C_forged m r.2 := by
  unfold f_C_forged at h
  have hf : jfr W_C_forged m m := jfr_rf
  obtain ⟨x1, m2, zm2, h⟩ := jbd_some h
  replace hf := jfr_tr hf (jfr_sub (W := W_C_isWriter) rfl (fr_C_isWriter zm2))
  refine jem (p := x1 = 0) (fun c => ?_) (fun c => ?_)
  · rw [if_pos c] at h
    cases h
    exact hf
  · rw [if_neg c] at h
    refine jem (p := v2 < 0) (fun c => ?_) (fun c => ?_)
    · rw [if_pos c] at h
      cases h
      exact hf
    · rw [if_neg c] at h
      refine jem (p := (m2 1 6) < v2) (fun c => ?_) (fun c => ?_)
      · rw [if_pos c] at h
        cases h
        exact hf
      · rw [if_neg c] at h
        refine jem (p := 0 ≤ v3) (fun c => ?_) (fun c => ?_)
        · rw [if_pos c] at h
          obtain ⟨x3, m4, zm4, h⟩ := jbd_some h
          replace hf := jfr_tr hf (jfr_sub (W := W_U_verdict) rfl (fr_U_verdict zm4))
          cases h
          exact hf
        · rw [if_neg c] at h
          cases h
          exact hf

def W_C_forgers : List (Nat × Nat) := []
theorem fr_lp_C_forgers_23 {m0 : jMem} (v1 : Int32) (v2 : Int32) (k58 : Int32 → jMem → Option (Int32 × jMem))
    (hk58 : ∀ (v3 : Int32) (m : jMem) (r : (Int32 × jMem)), jfr W_C_forgers m0 m → k58 v3 m = some r → jfr W_C_forgers m0 r.2) : ∀ (n : Nat) (v3 : Int32) (v4 : Int32) (m : jMem) (r : (Int32 × jMem)), jfr W_C_forgers m0 m → lp_C_forgers_23 v1 v2 k58 n v3 v4 m = some r → jfr W_C_forgers m0 r.2 := by
  intro n
  induction n with
  | zero => intro v3 v4 m r hf h; unfold lp_C_forgers_23 at h; cases h
  | succ n ih =>
    intro v3 v4 m r hf h
    unfold lp_C_forgers_23 at h
    refine jem (p := (6 : Int32) ≤ v4) (fun c => ?_) (fun c => ?_)
    · rw [if_pos c] at h
      exact hk58 v3 m _ hf h
    · rw [if_neg c] at h
      obtain ⟨x1, m2, zm2, h⟩ := jbd_some h
      replace hf := jfr_tr hf (jfr_sub (W := W_U_verdict) rfl (fr_U_verdict zm2))
      refine jem_ne (p := x1 = 0) (fun c => ?_) (fun c => ?_)
      · rw [if_neg c] at h
        exact ih v3 (v4 + (1 : Int32)) m2 _ hf h
      · rw [if_pos c] at h
        obtain ⟨x3, m4, zm4, h⟩ := jbd_some h
        replace hf := jfr_tr hf (jfr_sub (W := W_C_bit) rfl (fr_C_bit zm4))
        exact ih (v3 ||| x3) (v4 + (1 : Int32)) m4 _ hf h
theorem fr_C_forgers {v1 : Int32} {v2 : Int32} {m : jMem} {r : (Int32 × jMem)} (h : f_C_forgers v1 v2 m = some r) : jfr W_C_forgers m r.2 := by
  unfold f_C_forgers at h
  have hf : jfr W_C_forgers m m := jfr_rf
  refine jem (p := v1 < 0) (fun c => ?_) (fun c => ?_)
  · rw [if_pos c] at h
    cases h
    exact hf
  · rw [if_neg c] at h
    refine jem (p := (m 1 6) < v1) (fun c => ?_) (fun c => ?_)
    · rw [if_pos c] at h
      cases h
      exact hf
    · rw [if_neg c] at h
      refine jem (p := 0 ≤ v2) (fun c => ?_) (fun c => ?_)
      · rw [if_pos c] at h
        refine fr_lp_C_forgers_23 v1 v2 _ ?_ _ (0 : Int32) (0 : Int32) m _ hf h
        intro w6 m5 r hf h
        cases h
        exact hf
      · rw [if_neg c] at h
        cases h
        exact hf

def W_C_ahead : List (Nat × Nat) := [(89, 4), (90, 0), (91, 0)]
theorem fr_C_ahead {v1 : Int32} {v2 : Int32} {m : jMem} {r : (Int32 × jMem)} (h : f_C_ahead v1 v2 m = some r) : jfr W_C_ahead m r.2 := by
  unfold f_C_ahead at h
  have hf : jfr W_C_ahead m m := jfr_rf
  obtain ⟨x1, m2, zm2, h⟩ := jbd_some h
  replace hf := jfr_tr hf (jfr_sub (W := W_L_areTwo) rfl (fr_L_areTwo zm2))
  refine jem (p := x1 = 0) (fun c => ?_) (fun c => ?_)
  · rw [if_pos c] at h
    cases h
    exact hf
  · rw [if_neg c] at h
    refine jem (p := (12 : Int32) ≤ (m2 89 3)) (fun c => ?_) (fun c => ?_)
    · rw [if_pos c] at h
      cases h
      exact hf
    · rw [if_neg c] at h
      obtain ⟨x3, m4, zm4, h⟩ := jbd_some h
      replace hf := jfr_tr hf (jfr_sub (W := W_O_goesAgainst) rfl (fr_O_goesAgainst zm4))
      refine jem (p := x3 = 0) (fun c => ?_) (fun c => ?_)
      · rw [if_pos c] at h
        obtain ⟨u5, m6, zm6, h⟩ := jbd_some h
        replace hf := jfr_tr hf (jfr_sub (W := W_O_tell) rfl (fr_O_tell zm6))
        cases h
        exact hf
      · rw [if_neg c] at h
        cases h
        exact hf

def W_C_orders : List (Nat × Nat) := [(89, 7), (92, 0), (93, 0), (94, 0)]
theorem fr_C_orders {v1 : Int32} {m : jMem} {r : (Int32 × jMem)} (h : f_C_orders v1 m = some r) : jfr W_C_orders m r.2 := by
  unfold f_C_orders at h
  have hf : jfr W_C_orders m m := jfr_rf
  obtain ⟨x1, m2, zm2, h⟩ := jbd_some h
  replace hf := jfr_tr hf (jfr_sub (W := W_O_takesSet) rfl (fr_O_takesSet zm2))
  refine jem (p := x1 = 0) (fun c => ?_) (fun c => ?_)
  · rw [if_pos c] at h
    cases h
    exact hf
  · rw [if_neg c] at h
    obtain ⟨x3, m4, zm4, h⟩ := jbd_some h
    replace hf := jfr_tr hf (jfr_sub (W := W_O_howMany) rfl (fr_O_howMany zm4))
    cases h
    exact hf

def W_C_order : List (Nat × Nat) := [(89, 7), (92, 0), (93, 0), (94, 0)]
theorem fr_C_order {v1 : Int32} {v2 : Int32} {v3 : Int32} {m : jMem} {r : (Int32 × jMem)} (h : f_C_order v1 v2 v3 m = some r) : jfr W_C_order m r.2 := by
  unfold f_C_order at h
  have hf : jfr W_C_order m m := jfr_rf
  obtain ⟨x1, m2, zm2, h⟩ := jbd_some h
  replace hf := jfr_tr hf (jfr_sub (W := W_O_takesSet) rfl (fr_O_takesSet zm2))
  refine jem (p := x1 = 0) (fun c => ?_) (fun c => ?_)
  · rw [if_pos c] at h
    cases h
    exact hf
  · rw [if_neg c] at h
    refine jem (p := v2 < 0) (fun c => ?_) (fun c => ?_)
    · rw [if_pos c] at h
      cases h
      exact hf
    · rw [if_neg c] at h
      refine jem (p := v3 < 0) (fun c => ?_) (fun c => ?_)
      · rw [if_pos c] at h
        cases h
        exact hf
      · rw [if_neg c] at h
        refine jem (p := v3 < (m2 89 6)) (fun c => ?_) (fun c => ?_)
        · rw [if_pos c] at h
          obtain ⟨x3, m4, zm4, h⟩ := jbd_some h
          replace hf := jfr_tr hf (jfr_sub (W := W_O_letterAt) rfl (fr_O_letterAt zm4))
          cases h
          exact hf
        · rw [if_neg c] at h
          cases h
          exact hf

def W_C_first : List (Nat × Nat) := [(89, 7), (92, 0), (93, 0), (94, 0)]
theorem fr_C_first {v1 : Int32} {v2 : Int32} {v3 : Int32} {m : jMem} {r : (Int32 × jMem)} (h : f_C_first v1 v2 v3 m = some r) : jfr W_C_first m r.2 := by
  unfold f_C_first at h
  have hf : jfr W_C_first m m := jfr_rf
  obtain ⟨x1, m2, zm2, h⟩ := jbd_some h
  replace hf := jfr_tr hf (jfr_sub (W := W_O_takesSet) rfl (fr_O_takesSet zm2))
  refine jem (p := x1 = 0) (fun c => ?_) (fun c => ?_)
  · rw [if_pos c] at h
    cases h
    exact hf
  · rw [if_neg c] at h
    refine jem (p := v2 = v3) (fun c => ?_) (fun c => ?_)
    · rw [if_pos c] at h
      cases h
      exact hf
    · rw [if_neg c] at h
      obtain ⟨x3, m4, zm4, h⟩ := jbd_some h
      replace hf := jfr_tr hf (jfr_sub (W := W_C_isIn) rfl (fr_C_isIn zm4))
      refine jem (p := x3 = 0) (fun c => ?_) (fun c => ?_)
      · rw [if_pos c] at h
        cases h
        exact hf
      · rw [if_neg c] at h
        obtain ⟨x5, m6, zm6, h⟩ := jbd_some h
        replace hf := jfr_tr hf (jfr_sub (W := W_C_isIn) rfl (fr_C_isIn zm6))
        refine jem_ne (p := x5 = 0) (fun c => ?_) (fun c => ?_)
        · rw [if_neg c] at h
          obtain ⟨u7, m8, zm8, h⟩ := jbd_some h
          replace hf := jfr_tr hf (jfr_sub (W := W_O_demand) rfl (fr_O_demand zm8))
          obtain ⟨x9, m10, zm10, h⟩ := jbd_some h
          replace hf := jfr_tr hf (jfr_sub (W := W_O_howMany) rfl (fr_O_howMany zm10))
          cases h
          exact hf
        · rw [if_pos c] at h
          cases h
          exact hf

def W_C_ask : List (Nat × Nat) := [(89, 7), (92, 0), (93, 0), (94, 0), (95, 0), (97, 0), (98, 0), (99, 0), (100, 0), (101, 0), (102, 0), (103, 0), (104, 0), (105, 0), (106, 0), (107, 0), (108, 0)]
theorem fr_C_ask {v1 : Int32} {m : jMem} {r : (Int32 × jMem)} (h : f_C_ask v1 m = some r) : jfr W_C_ask m r.2 := by
  unfold f_C_ask at h
  have hf : jfr W_C_ask m m := jfr_rf
  obtain ⟨x1, m2, zm2, h⟩ := jbd_some h
  replace hf := jfr_tr hf (jfr_sub (W := W_O_takesSet) rfl (fr_O_takesSet zm2))
  refine jem (p := x1 = 0) (fun c => ?_) (fun c => ?_)
  · rw [if_pos c] at h
    cases h
    exact hf
  · rw [if_neg c] at h
    obtain ⟨x3, m4, zm4, h⟩ := jbd_some h
    replace hf := jfr_tr hf (jfr_sub (W := W_O_bestQuestion) rfl (fr_O_bestQuestion zm4))
    cases h
    exact hf

def W_C_hangs : List (Nat × Nat) := []
theorem fr_C_hangs {v1 : Int32} {v2 : Int32} {m : jMem} {r : (Int32 × jMem)} (h : f_C_hangs v1 v2 m = some r) : jfr W_C_hangs m r.2 := by
  unfold f_C_hangs at h
  have hf : jfr W_C_hangs m m := jfr_rf
  obtain ⟨x1, m2, zm2, h⟩ := jbd_some h
  replace hf := jfr_tr hf (jfr_sub (W := W_L_isTakenBack) rfl (fr_L_isTakenBack zm2))
  refine jem (p := x1 = 0) (fun c => ?_) (fun c => ?_)
  · rw [if_pos c] at h
    cases h
    exact hf
  · rw [if_neg c] at h
    refine jem (p := v2 < 0) (fun c => ?_) (fun c => ?_)
    · rw [if_pos c] at h
      cases h
      exact hf
    · rw [if_neg c] at h
      refine jem (p := v2 ≤ (1 : Int32)) (fun c => ?_) (fun c => ?_)
      · rw [if_pos c] at h
        refine jem_ne (p := v2 = 0) (fun c => ?_) (fun c => ?_)
        · rw [if_neg c] at h
          obtain ⟨x3, m4, zm4, h⟩ := jbd_some h
          replace hf := jfr_tr hf (jfr_sub (W := W_L_hanging) rfl (fr_L_hanging zm4))
          cases h
          exact hf
        · rw [if_pos c] at h
          obtain ⟨x5, m6, zm6, h⟩ := jbd_some h
          replace hf := jfr_tr hf (jfr_sub (W := W_L_hanging) rfl (fr_L_hanging zm6))
          cases h
          exact hf
      · rw [if_neg c] at h
        cases h
        exact hf

def W_C_count : List (Nat × Nat) := []
theorem fr_C_count {v1 : Int32} {m : jMem} {r : (Int32 × jMem)} (h : f_C_count v1 m = some r) : jfr W_C_count m r.2 := by
  unfold f_C_count at h
  have hf : jfr W_C_count m m := jfr_rf
  by_cases c0 : v1 = (0 : Int32)
  · rw [if_pos c0] at h
    cases h
    exact hf
  · rw [if_neg c0] at h
    by_cases c1 : v1 = (1 : Int32)
    · rw [if_pos c1] at h
      cases h
      exact hf
    · rw [if_neg c1] at h
      by_cases c2 : v1 = (2 : Int32)
      · rw [if_pos c2] at h
        cases h
        exact hf
      · rw [if_neg c2] at h
        by_cases c3 : v1 = (3 : Int32)
        · rw [if_pos c3] at h
          obtain ⟨x9, m10, zm10, h⟩ := jbd_some h
          replace hf := jfr_tr hf (jfr_sub (W := W_P_howManyUnderWay) rfl (fr_P_howManyUnderWay zm10))
          cases h
          exact hf
        · rw [if_neg c3] at h
          by_cases c4 : v1 = (4 : Int32)
          · rw [if_pos c4] at h
            obtain ⟨x7, m8, zm8, h⟩ := jbd_some h
            replace hf := jfr_tr hf (jfr_sub (W := W_D_allHeld) rfl (fr_D_allHeld zm8))
            cases h
            exact hf
          · rw [if_neg c4] at h
            by_cases c5 : v1 = (5 : Int32)
            · rw [if_pos c5] at h
              obtain ⟨x5, m6, zm6, h⟩ := jbd_some h
              replace hf := jfr_tr hf (jfr_sub (W := W_D_allRead) rfl (fr_D_allRead zm6))
              cases h
              exact hf
            · rw [if_neg c5] at h
              by_cases c6 : v1 = (6 : Int32)
              · rw [if_pos c6] at h
                obtain ⟨x3, m4, zm4, h⟩ := jbd_some h
                replace hf := jfr_tr hf (jfr_sub (W := W_JI_bitCount) rfl (fr_JI_bitCount zm4))
                cases h
                exact hf
              · rw [if_neg c6] at h
                by_cases c7 : v1 = (7 : Int32)
                · rw [if_pos c7] at h
                  obtain ⟨g2, h⟩ := jgd_some h
                  cases h
                  exact hf
                · rw [if_neg c7] at h
                  by_cases c8 : v1 = (8 : Int32)
                  · rw [if_pos c8] at h
                    obtain ⟨g1, h⟩ := jgd_some h
                    cases h
                    exact hf
                  · rw [if_neg c8] at h
                    by_cases c9 : v1 = (9 : Int32)
                    · rw [if_pos c9] at h
                      cases h
                      exact hf
                    · rw [if_neg c9] at h
                      cases h
                      exact hf
