def W_M_written : List (Nat × Nat) := [(109, 34), (109, 45), (121, 0), (122, 0), (123, 0), (124, 0), (125, 0), (126, 0), (127, 0), (128, 0), (129, 0), (130, 0), (131, 0), (132, 0), (133, 0), (134, 0), (135, 0), (136, 0)]
theorem fr_lp_M_written_96 {m0 : jMem} (v1 : Int32) (v2 : Int32) (v6 : Int32) (k141 : jMem → Option (Unit × jMem))
    (hk141 : ∀ (m : jMem) (r : (Unit × jMem)), jfr W_M_written m0 m → k141 m = some r → jfr W_M_written m0 r.2) : ∀ (n : Nat) (v7 : Int32) (m : jMem) (r : (Unit × jMem)), jfr W_M_written m0 m → lp_M_written_96 v1 v2 v6 k141 n v7 m = some r → jfr W_M_written m0 r.2 := by
  intro n
  induction n with
  | zero => intro v7 m r hf h; unfold lp_M_written_96 at h; cases h
  | succ n ih =>
    intro v7 m r hf h
    unfold lp_M_written_96 at h
    refine jem (p := v6 ≤ v7) (fun c => ?_) (fun c => ?_)
    · rw [if_pos c] at h
      exact hk141  m _ hf h
    · rw [if_neg c] at h
      obtain ⟨x12, ex12, g, h⟩ := jld_some h
      refine jem_ne (p := ((x12 >>> (v7 &&& 31)) &&& (1 : Int32)) = (1 : Int32)) (fun c => ?_) (fun c => ?_)
      · rw [if_neg c] at h
        exact ih (v7 + (1 : Int32)) m _ hf h
      · rw [if_pos c] at h
        obtain ⟨x13, ex13, g, h⟩ := jld_some h
        obtain ⟨x14, ex14, g, h⟩ := jld_some h
        obtain ⟨m15, hm15, g, h⟩ := jst_some h
        replace hf := jfr_tr hf (jfr_ua hm15 rfl)
        exact ih (v7 + (1 : Int32)) m15 _ hf h
theorem fr_lp_M_written_154 {m0 : jMem} (v1 : Int32) (v2 : Int32) (v6 : Int32) (k181 : jMem → Option (Unit × jMem))
    (hk181 : ∀ (m : jMem) (r : (Unit × jMem)), jfr W_M_written m0 m → k181 m = some r → jfr W_M_written m0 r.2) : ∀ (n : Nat) (v7 : Int32) (m : jMem) (r : (Unit × jMem)), jfr W_M_written m0 m → lp_M_written_154 v1 v2 v6 k181 n v7 m = some r → jfr W_M_written m0 r.2 := by
  intro n
  induction n with
  | zero => intro v7 m r hf h; unfold lp_M_written_154 at h; cases h
  | succ n ih =>
    intro v7 m r hf h
    unfold lp_M_written_154 at h
    refine jem (p := (6 : Int32) ≤ v7) (fun c => ?_) (fun c => ?_)
    · rw [if_pos c] at h
      exact hk181  m _ hf h
    · rw [if_neg c] at h
      obtain ⟨m18, hm18, g, h⟩ := jst_some h
      replace hf := jfr_tr hf (jfr_ua hm18 rfl)
      exact ih (v7 + (1 : Int32)) m18 _ hf h
theorem fr_lp_M_written_213 {m0 : jMem} (v1 : Int32) (v2 : Int32) (v6 : Int32) (k245 : jMem → Option (Unit × jMem))
    (hk245 : ∀ (m : jMem) (r : (Unit × jMem)), jfr W_M_written m0 m → k245 m = some r → jfr W_M_written m0 r.2) : ∀ (n : Nat) (v7 : Int32) (m : jMem) (r : (Unit × jMem)), jfr W_M_written m0 m → lp_M_written_213 v1 v2 v6 k245 n v7 m = some r → jfr W_M_written m0 r.2 := by
  intro n
  induction n with
  | zero => intro v7 m r hf h; unfold lp_M_written_213 at h; cases h
  | succ n ih =>
    intro v7 m r hf h
    unfold lp_M_written_213 at h
    refine jem (p := (6 : Int32) ≤ v7) (fun c => ?_) (fun c => ?_)
    · rw [if_pos c] at h
      exact hk245  m _ hf h
    · rw [if_neg c] at h
      refine jem_ne (p := ((v2 >>> (v7 &&& 31)) &&& (1 : Int32)) = (1 : Int32)) (fun c => ?_) (fun c => ?_)
      · rw [if_neg c] at h
        exact ih (v7 + (1 : Int32)) m _ hf h
      · rw [if_pos c] at h
        obtain ⟨u23, m24, zm24, h⟩ := jbd_some h
        replace hf := jfr_tr hf (jfr_sub (W := W_M_post) rfl (fr_M_post zm24))
        exact ih (v7 + (1 : Int32)) m24 _ hf h
theorem fr_M_written {v1 : Int32} {v2 : Int32} {v3 : Int32} {v4 : Int32} {v5 : Int32} {m : jMem} {r : (Unit × jMem)} (h : f_M_written v1 v2 v3 v4 v5 m = some r) : jfr W_M_written m r.2 := by
  unfold f_M_written at h
  have hf : jfr W_M_written m m := jfr_rf
  obtain ⟨m1, hm1, g, h⟩ := jst_some h
  replace hf := jfr_tr hf (jfr_ua hm1 rfl)
  obtain ⟨m2, hm2, g, h⟩ := jst_some h
  replace hf := jfr_tr hf (jfr_ua hm2 rfl)
  obtain ⟨m3, hm3, g, h⟩ := jst_some h
  replace hf := jfr_tr hf (jfr_ua hm3 rfl)
  obtain ⟨m4, hm4, g, h⟩ := jst_some h
  replace hf := jfr_tr hf (jfr_ua hm4 rfl)
  obtain ⟨m5, hm5, g, h⟩ := jst_some h
  replace hf := jfr_tr hf (jfr_ua hm5 rfl)
  obtain ⟨m6, hm6, g, h⟩ := jst_some h
  replace hf := jfr_tr hf (jfr_ua hm6 rfl)
  obtain ⟨m7, hm7, g, h⟩ := jst_some h
  replace hf := jfr_tr hf (jfr_ua hm7 rfl)
  obtain ⟨x8, ex8, g, h⟩ := jld_some h
  obtain ⟨m9, hm9, g, h⟩ := jst_some h
  replace hf := jfr_tr hf (jfr_ua hm9 rfl)
  obtain ⟨x10, ex10, g, h⟩ := jld_some h
  obtain ⟨m11, hm11, g, h⟩ := jst_some h
  replace hf := jfr_tr hf (jfr_ua hm11 rfl)
  refine fr_lp_M_written_96 v1 v2 (m 109 33) _ ?_ _ (0 : Int32) m11 _ hf h
  intro m16 r hf h
  obtain ⟨m17, hm17, h⟩ := jpu_some h
  replace hf := jfr_tr hf (jfr_up hm17 rfl)
  refine fr_lp_M_written_154 v1 v2 (m 109 33) _ ?_ _ (0 : Int32) m17 _ hf h
  intro m19 r hf h
  obtain ⟨x20, ex20, g, h⟩ := jld_some h
  obtain ⟨m21, hm21, g, h⟩ := jst_some h
  replace hf := jfr_tr hf (jfr_ua hm21 rfl)
  obtain ⟨m22, hm22, g, h⟩ := jst_some h
  replace hf := jfr_tr hf (jfr_ua hm22 rfl)
  refine fr_lp_M_written_213 v1 v2 (m 109 33) _ ?_ _ (0 : Int32) m22 _ hf h
  intro m25 r hf h
  cases h
  exact hf

def W_M_hasRoom : List (Nat × Nat) := []
theorem fr_M_hasRoom {v1 : Int32} {m : jMem} {r : (Int32 × jMem)} (h : f_M_hasRoom v1 m = some r) : jfr W_M_hasRoom m r.2 := by
  unfold f_M_hasRoom at h
  have hf : jfr W_M_hasRoom m m := jfr_rf
  refine jem (p := (30 : Int32) ≤ (m 109 33)) (fun c => ?_) (fun c => ?_)
  · rw [if_pos c] at h
    cases h
    exact hf
  · rw [if_neg c] at h
    obtain ⟨x1, m2, zm2, h⟩ := jbd_some h
    replace hf := jfr_tr hf (jfr_sub (W := W_M_bits) rfl (fr_M_bits zm2))
    refine jem (p := (150 : Int32) < ((m 109 44) + x1)) (fun c => ?_) (fun c => ?_)
    · rw [if_pos c] at h
      cases h
      exact hf
    · rw [if_neg c] at h
      cases h
      exact hf

def W_M_isKnown : List (Nat × Nat) := []
theorem fr_M_isKnown {v1 : Int32} {v2 : Int32} {m : jMem} {r : (Int32 × jMem)} (h : f_M_isKnown v1 v2 m = some r) : jfr W_M_isKnown m r.2 := by
  unfold f_M_isKnown at h
  have hf : jfr W_M_isKnown m m := jfr_rf
  obtain ⟨x1, m2, zm2, h⟩ := jbd_some h
  replace hf := jfr_tr hf (jfr_sub (W := W_M_isLetter) rfl (fr_M_isLetter zm2))
  refine jem (p := x1 = 0) (fun c => ?_) (fun c => ?_)
  · rw [if_pos c] at h
    cases h
    exact hf
  · rw [if_neg c] at h
    obtain ⟨x3, ex3, g, h⟩ := jld_some h
    refine jem_ne (p := ((x3 >>> (v2 &&& 31)) &&& (1 : Int32)) = (1 : Int32)) (fun c => ?_) (fun c => ?_)
    · rw [if_neg c] at h
      cases h
      exact hf
    · rw [if_pos c] at h
      cases h
      exact hf

def W_M_write : List (Nat × Nat) := [(109, 1), (109, 34), (109, 45), (121, 0), (122, 0), (123, 0), (124, 0), (125, 0), (126, 0), (127, 0), (128, 0), (129, 0), (130, 0), (131, 0), (132, 0), (133, 0), (134, 0), (135, 0), (136, 0)]
theorem fr_M_write {v1 : Int32} {v2 : Int32} {v3 : Int32} {v4 : Int32} {v5 : Int32} {m : jMem} {r : (Int32 × jMem)} (h : f_M_write v1 v2 v3 v4 v5 m = some r) : jfr W_M_write m r.2 := by
  unfold f_M_write at h
  have hf : jfr W_M_write m m := jfr_rf
  obtain ⟨m1, hm1, h⟩ := jpu_some h
  replace hf := jfr_tr hf (jfr_up hm1 rfl)
  obtain ⟨x2, m3, zm3, h⟩ := jbd_some h
  replace hf := jfr_tr hf (jfr_sub (W := W_M_isWriter) rfl (fr_M_isWriter zm3))
  refine jem (p := x2 = 0) (fun c => ?_) (fun c => ?_)
  · rw [if_pos c] at h
    cases h
    exact hf
  · rw [if_neg c] at h
    refine jem (p := v2 < (1 : Int32)) (fun c => ?_) (fun c => ?_)
    · rw [if_pos c] at h
      cases h
      exact hf
    · rw [if_neg c] at h
      refine jem (p := (63 : Int32) < v2) (fun c => ?_) (fun c => ?_)
      · rw [if_pos c] at h
        cases h
        exact hf
      · rw [if_neg c] at h
        refine jem (p := ((v2 >>> (v1 &&& 31)) &&& (1 : Int32)) = (1 : Int32)) (fun c => ?_) (fun c => ?_)
        · rw [if_pos c] at h
          cases h
          exact hf
        · rw [if_neg c] at h
          refine jem (p := v3 < 0) (fun c => ?_) (fun c => ?_)
          · rw [if_pos c] at h
            cases h
            exact hf
          · rw [if_neg c] at h
            refine jem (p := v3 ≤ (2 : Int32)) (fun c => ?_) (fun c => ?_)
            · rw [if_pos c] at h
              refine jem_ne (p := v4 = (-1 : Int32)) (fun c => ?_) (fun c => ?_)
              · rw [if_neg c] at h
                obtain ⟨x4, m5, zm5, h⟩ := jbd_some h
                replace hf := jfr_tr hf (jfr_sub (W := W_M_isKnown) rfl (fr_M_isKnown zm5))
                refine jem (p := x4 = 0) (fun c => ?_) (fun c => ?_)
                · rw [if_pos c] at h
                  cases h
                  exact hf
                · rw [if_neg c] at h
                  refine jem (p := v5 = v4) (fun c => ?_) (fun c => ?_)
                  · rw [if_pos c] at h
                    cases h
                    exact hf
                  · rw [if_neg c] at h
                    refine jem (p := v5 = (-1 : Int32)) (fun c => ?_) (fun c => ?_)
                    · rw [if_pos c] at h
                      refine jem_ne (p := v3 = (2 : Int32)) (fun c => ?_) (fun c => ?_)
                      · rw [if_neg c] at h
                        obtain ⟨x6, m7, zm7, h⟩ := jbd_some h
                        replace hf := jfr_tr hf (jfr_sub (W := W_M_hasRoom) rfl (fr_M_hasRoom zm7))
                        refine jem_ne (p := x6 = 0) (fun c => ?_) (fun c => ?_)
                        · rw [if_neg c] at h
                          obtain ⟨u8, m9, zm9, h⟩ := jbd_some h
                          replace hf := jfr_tr hf (jfr_sub (W := W_M_written) rfl (fr_M_written zm9))
                          cases h
                          exact hf
                        · rw [if_pos c] at h
                          cases h
                          exact hf
                      · rw [if_pos c] at h
                        refine jem (p := v4 = (-1 : Int32)) (fun c => ?_) (fun c => ?_)
                        · rw [if_pos c] at h
                          cases h
                          exact hf
                        · rw [if_neg c] at h
                          refine jem_ne (p := v5 = (-1 : Int32)) (fun c => ?_) (fun c => ?_)
                          · rw [if_neg c] at h
                            cases h
                            exact hf
                          · rw [if_pos c] at h
                            obtain ⟨x10, ex10, g, h⟩ := jld_some h
                            refine jem_ne (p := x10 = v1) (fun c => ?_) (fun c => ?_)
                            · rw [if_neg c] at h
                              cases h
                              exact hf
                            · rw [if_pos c] at h
                              obtain ⟨x11, m12, zm12, h⟩ := jbd_some h
                              replace hf := jfr_tr hf (jfr_sub (W := W_M_hasRoom) rfl (fr_M_hasRoom zm12))
                              refine jem_ne (p := x11 = 0) (fun c => ?_) (fun c => ?_)
                              · rw [if_neg c] at h
                                obtain ⟨u13, m14, zm14, h⟩ := jbd_some h
                                replace hf := jfr_tr hf (jfr_sub (W := W_M_written) rfl (fr_M_written zm14))
                                cases h
                                exact hf
                              · rw [if_pos c] at h
                                cases h
                                exact hf
                    · rw [if_neg c] at h
                      obtain ⟨x15, m16, zm16, h⟩ := jbd_some h
                      replace hf := jfr_tr hf (jfr_sub (W := W_M_isKnown) rfl (fr_M_isKnown zm16))
                      refine jem_ne (p := x15 = 0) (fun c => ?_) (fun c => ?_)
                      · rw [if_neg c] at h
                        refine jem_ne (p := v3 = (2 : Int32)) (fun c => ?_) (fun c => ?_)
                        · rw [if_neg c] at h
                          obtain ⟨x17, m18, zm18, h⟩ := jbd_some h
                          replace hf := jfr_tr hf (jfr_sub (W := W_M_hasRoom) rfl (fr_M_hasRoom zm18))
                          refine jem_ne (p := x17 = 0) (fun c => ?_) (fun c => ?_)
                          · rw [if_neg c] at h
                            obtain ⟨u19, m20, zm20, h⟩ := jbd_some h
                            replace hf := jfr_tr hf (jfr_sub (W := W_M_written) rfl (fr_M_written zm20))
                            cases h
                            exact hf
                          · rw [if_pos c] at h
                            cases h
                            exact hf
                        · rw [if_pos c] at h
                          refine jem (p := v4 = (-1 : Int32)) (fun c => ?_) (fun c => ?_)
                          · rw [if_pos c] at h
                            cases h
                            exact hf
                          · rw [if_neg c] at h
                            refine jem_ne (p := v5 = (-1 : Int32)) (fun c => ?_) (fun c => ?_)
                            · rw [if_neg c] at h
                              cases h
                              exact hf
                            · rw [if_pos c] at h
                              obtain ⟨x21, ex21, g, h⟩ := jld_some h
                              refine jem_ne (p := x21 = v1) (fun c => ?_) (fun c => ?_)
                              · rw [if_neg c] at h
                                cases h
                                exact hf
                              · rw [if_pos c] at h
                                obtain ⟨x22, m23, zm23, h⟩ := jbd_some h
                                replace hf := jfr_tr hf (jfr_sub (W := W_M_hasRoom) rfl (fr_M_hasRoom zm23))
                                refine jem_ne (p := x22 = 0) (fun c => ?_) (fun c => ?_)
                                · rw [if_neg c] at h
                                  obtain ⟨u24, m25, zm25, h⟩ := jbd_some h
                                  replace hf := jfr_tr hf (jfr_sub (W := W_M_written) rfl (fr_M_written zm25))
                                  cases h
                                  exact hf
                                · rw [if_pos c] at h
                                  cases h
                                  exact hf
                      · rw [if_pos c] at h
                        cases h
                        exact hf
              · rw [if_pos c] at h
                refine jem (p := v5 = (-1 : Int32)) (fun c => ?_) (fun c => ?_)
                · rw [if_pos c] at h
                  refine jem_ne (p := v3 = (2 : Int32)) (fun c => ?_) (fun c => ?_)
                  · rw [if_neg c] at h
                    obtain ⟨x26, m27, zm27, h⟩ := jbd_some h
                    replace hf := jfr_tr hf (jfr_sub (W := W_M_hasRoom) rfl (fr_M_hasRoom zm27))
                    refine jem_ne (p := x26 = 0) (fun c => ?_) (fun c => ?_)
                    · rw [if_neg c] at h
                      obtain ⟨u28, m29, zm29, h⟩ := jbd_some h
                      replace hf := jfr_tr hf (jfr_sub (W := W_M_written) rfl (fr_M_written zm29))
                      cases h
                      exact hf
                    · rw [if_pos c] at h
                      cases h
                      exact hf
                  · rw [if_pos c] at h
                    refine jem (p := v4 = (-1 : Int32)) (fun c => ?_) (fun c => ?_)
                    · rw [if_pos c] at h
                      cases h
                      exact hf
                    · rw [if_neg c] at h
                      refine jem_ne (p := v5 = (-1 : Int32)) (fun c => ?_) (fun c => ?_)
                      · rw [if_neg c] at h
                        cases h
                        exact hf
                      · rw [if_pos c] at h
                        obtain ⟨x30, ex30, g, h⟩ := jld_some h
                        refine jem_ne (p := x30 = v1) (fun c => ?_) (fun c => ?_)
                        · rw [if_neg c] at h
                          cases h
                          exact hf
                        · rw [if_pos c] at h
                          obtain ⟨x31, m32, zm32, h⟩ := jbd_some h
                          replace hf := jfr_tr hf (jfr_sub (W := W_M_hasRoom) rfl (fr_M_hasRoom zm32))
                          refine jem_ne (p := x31 = 0) (fun c => ?_) (fun c => ?_)
                          · rw [if_neg c] at h
                            obtain ⟨u33, m34, zm34, h⟩ := jbd_some h
                            replace hf := jfr_tr hf (jfr_sub (W := W_M_written) rfl (fr_M_written zm34))
                            cases h
                            exact hf
                          · rw [if_pos c] at h
                            cases h
                            exact hf
                · rw [if_neg c] at h
                  cases h
                  exact hf
            · rw [if_neg c] at h
              cases h
              exact hf

def W_M_isUnderWay : List (Nat × Nat) := []
theorem fr_M_isUnderWay {v1 : Int32} {m : jMem} {r : (Int32 × jMem)} (h : f_M_isUnderWay v1 m = some r) : jfr W_M_isUnderWay m r.2 := by
  unfold f_M_isUnderWay at h
  have hf : jfr W_M_isUnderWay m m := jfr_rf
  refine jem (p := v1 < 0) (fun c => ?_) (fun c => ?_)
  · rw [if_pos c] at h
    cases h
    exact hf
  · rw [if_neg c] at h
    refine jem (p := (m 109 44) ≤ v1) (fun c => ?_) (fun c => ?_)
    · rw [if_pos c] at h
      cases h
      exact hf
    · rw [if_neg c] at h
      obtain ⟨x1, ex1, g, h⟩ := jld_some h
      refine jem_ne (p := x1 = 0) (fun c => ?_) (fun c => ?_)
      · rw [if_neg c] at h
        cases h
        exact hf
      · rw [if_pos c] at h
        cases h
        exact hf

def W_M_late : List (Nat × Nat) := [(109, 1), (133, 0)]
theorem fr_M_late {v1 : Int32} {v2 : Int32} {m : jMem} {r : (Int32 × jMem)} (h : f_M_late v1 v2 m = some r) : jfr W_M_late m r.2 := by
  unfold f_M_late at h
  have hf : jfr W_M_late m m := jfr_rf
  obtain ⟨m1, hm1, h⟩ := jpu_some h
  replace hf := jfr_tr hf (jfr_up hm1 rfl)
  obtain ⟨x2, m3, zm3, h⟩ := jbd_some h
  replace hf := jfr_tr hf (jfr_sub (W := W_M_isUnderWay) rfl (fr_M_isUnderWay zm3))
  refine jem (p := x2 = 0) (fun c => ?_) (fun c => ?_)
  · rw [if_pos c] at h
    cases h
    exact hf
  · rw [if_neg c] at h
    refine jem (p := v2 < (1 : Int32)) (fun c => ?_) (fun c => ?_)
    · rw [if_pos c] at h
      cases h
      exact hf
    · rw [if_neg c] at h
      refine jem (p := (99 : Int32) < v2) (fun c => ?_) (fun c => ?_)
      · rw [if_pos c] at h
        cases h
        exact hf
      · rw [if_neg c] at h
        obtain ⟨x4, ex4, g, h⟩ := jld_some h
        refine jem (p := (x4 + v2) ≤ (999 : Int32)) (fun c => ?_) (fun c => ?_)
        · rw [if_pos c] at h
          obtain ⟨x5, ex5, g, h⟩ := jld_some h
          obtain ⟨x6, ex6, g, h⟩ := jld_some h
          obtain ⟨x7, ex7, g, h⟩ := jld_some h
          obtain ⟨x8, m9, zm9, h⟩ := jbd_some h
          replace hf := jfr_tr hf (jfr_sub (W := W_M_parted) rfl (fr_M_parted zm9))
          obtain ⟨m10, hm10, g, h⟩ := jst_some h
          replace hf := jfr_tr hf (jfr_ua hm10 rfl)
          obtain ⟨x11, ex11, g, h⟩ := jld_some h
          cases h
          exact hf
        · rw [if_neg c] at h
          cases h
          exact hf

def W_M_lose : List (Nat × Nat) := [(109, 1), (134, 0)]
theorem fr_M_lose {v1 : Int32} {m : jMem} {r : (Int32 × jMem)} (h : f_M_lose v1 m = some r) : jfr W_M_lose m r.2 := by
  unfold f_M_lose at h
  have hf : jfr W_M_lose m m := jfr_rf
  obtain ⟨m1, hm1, h⟩ := jpu_some h
  replace hf := jfr_tr hf (jfr_up hm1 rfl)
  obtain ⟨x2, m3, zm3, h⟩ := jbd_some h
  replace hf := jfr_tr hf (jfr_sub (W := W_M_isUnderWay) rfl (fr_M_isUnderWay zm3))
  refine jem_ne (p := x2 = 0) (fun c => ?_) (fun c => ?_)
  · rw [if_neg c] at h
    obtain ⟨m4, hm4, g, h⟩ := jst_some h
    replace hf := jfr_tr hf (jfr_ua hm4 rfl)
    cases h
    exact hf
  · rw [if_pos c] at h
    cases h
    exact hf

def W_M_again : List (Nat × Nat) := [(109, 1), (109, 45), (130, 0), (131, 0), (132, 0), (133, 0), (134, 0)]
theorem fr_M_again {v1 : Int32} {v2 : Int32} {v3 : Int32} {m : jMem} {r : (Int32 × jMem)} (h : f_M_again v1 v2 v3 m = some r) : jfr W_M_again m r.2 := by
  unfold f_M_again at h
  have hf : jfr W_M_again m m := jfr_rf
  obtain ⟨m1, hm1, h⟩ := jpu_some h
  replace hf := jfr_tr hf (jfr_up hm1 rfl)
  obtain ⟨x2, m3, zm3, h⟩ := jbd_some h
  replace hf := jfr_tr hf (jfr_sub (W := W_M_isWriter) rfl (fr_M_isWriter zm3))
  refine jem (p := x2 = 0) (fun c => ?_) (fun c => ?_)
  · rw [if_pos c] at h
    cases h
    exact hf
  · rw [if_neg c] at h
    obtain ⟨x4, m5, zm5, h⟩ := jbd_some h
    replace hf := jfr_tr hf (jfr_sub (W := W_M_isWriter) rfl (fr_M_isWriter zm5))
    refine jem (p := x4 = 0) (fun c => ?_) (fun c => ?_)
    · rw [if_pos c] at h
      cases h
      exact hf
    · rw [if_neg c] at h
      refine jem (p := v2 = v3) (fun c => ?_) (fun c => ?_)
      · rw [if_pos c] at h
        cases h
        exact hf
      · rw [if_neg c] at h
        obtain ⟨x6, m7, zm7, h⟩ := jbd_some h
        replace hf := jfr_tr hf (jfr_sub (W := W_M_isKnown) rfl (fr_M_isKnown zm7))
        refine jem (p := x6 = 0) (fun c => ?_) (fun c => ?_)
        · rw [if_pos c] at h
          cases h
          exact hf
        · rw [if_neg c] at h
          refine jem_ne (p := (m7 109 44) = (150 : Int32)) (fun c => ?_) (fun c => ?_)
          · rw [if_neg c] at h
            obtain ⟨u8, m9, zm9, h⟩ := jbd_some h
            replace hf := jfr_tr hf (jfr_sub (W := W_M_post) rfl (fr_M_post zm9))
            cases h
            exact hf
          · rw [if_pos c] at h
            cases h
            exact hf

def W_M_split : List (Nat × Nat) := [(109, 1), (109, 51), (109, 52), (109, 53)]
theorem fr_M_split {v1 : Int32} {v2 : Int32} {v3 : Int32} {m : jMem} {r : (Int32 × jMem)} (h : f_M_split v1 v2 v3 m = some r) : jfr W_M_split m r.2 := by
  unfold f_M_split at h
  have hf : jfr W_M_split m m := jfr_rf
  obtain ⟨m1, hm1, h⟩ := jpu_some h
  replace hf := jfr_tr hf (jfr_up hm1 rfl)
  refine jem (p := v1 < 0) (fun c => ?_) (fun c => ?_)
  · rw [if_pos c] at h
    cases h
    exact hf
  · rw [if_neg c] at h
    refine jem (p := (63 : Int32) < v1) (fun c => ?_) (fun c => ?_)
    · rw [if_pos c] at h
      cases h
      exact hf
    · rw [if_neg c] at h
      refine jem (p := v2 < 0) (fun c => ?_) (fun c => ?_)
      · rw [if_pos c] at h
        cases h
        exact hf
      · rw [if_neg c] at h
        refine jem (p := (998 : Int32) < v3) (fun c => ?_) (fun c => ?_)
        · rw [if_pos c] at h
          cases h
          exact hf
        · rw [if_neg c] at h
          refine jem (p := v2 ≤ v3) (fun c => ?_) (fun c => ?_)
          · rw [if_pos c] at h
            obtain ⟨m2, hm2, h⟩ := jpu_some h
            replace hf := jfr_tr hf (jfr_up hm2 rfl)
            obtain ⟨m3, hm3, h⟩ := jpu_some h
            replace hf := jfr_tr hf (jfr_up hm3 rfl)
            obtain ⟨m4, hm4, h⟩ := jpu_some h
            replace hf := jfr_tr hf (jfr_up hm4 rfl)
            cases h
            exact hf
          · rw [if_neg c] at h
            cases h
            exact hf

def W_M_deskPlace : List (Nat × Nat) := []
theorem fr_lp_M_deskPlace_2 {m0 : jMem} (v1 : Int32) (v2 : Int32) (k27 : Int32 → jMem → Option (Int32 × jMem)) (k35 : jMem → Option (Int32 × jMem))
    (hk27 : ∀ (v3 : Int32) (m : jMem) (r : (Int32 × jMem)), jfr W_M_deskPlace m0 m → k27 v3 m = some r → jfr W_M_deskPlace m0 r.2)
    (hk35 : ∀ (m : jMem) (r : (Int32 × jMem)), jfr W_M_deskPlace m0 m → k35 m = some r → jfr W_M_deskPlace m0 r.2) : ∀ (n : Nat) (v3 : Int32) (m : jMem) (r : (Int32 × jMem)), jfr W_M_deskPlace m0 m → lp_M_deskPlace_2 v1 v2 k27 k35 n v3 m = some r → jfr W_M_deskPlace m0 r.2 := by
  intro n
  induction n with
  | zero => intro v3 m r hf h; unfold lp_M_deskPlace_2 at h; cases h
  | succ n ih =>
    intro v3 m r hf h
    unfold lp_M_deskPlace_2 at h
    obtain ⟨x1, ex1, g, h⟩ := jld_some h
    refine jem (p := x1 ≤ v3) (fun c => ?_) (fun c => ?_)
    · rw [if_pos c] at h
      exact hk35  m _ hf h
    · rw [if_neg c] at h
      obtain ⟨x2, ex2, g, h⟩ := jld_some h
      refine jem_ne (p := x2 = v2) (fun c => ?_) (fun c => ?_)
      · rw [if_neg c] at h
        exact ih (v3 + (1 : Int32)) m _ hf h
      · rw [if_pos c] at h
        exact hk27 v3 m _ hf h
theorem fr_M_deskPlace {v1 : Int32} {v2 : Int32} {m : jMem} {r : (Int32 × jMem)} (h : f_M_deskPlace v1 v2 m = some r) : jfr W_M_deskPlace m r.2 := by
  unfold f_M_deskPlace at h
  have hf : jfr W_M_deskPlace m m := jfr_rf
  refine fr_lp_M_deskPlace_2 v1 v2 _ _ ?_ ?_ _ (0 : Int32) m _ hf h
  · intro w4 m3 r hf h
    cases h
    exact hf
  · intro m5 r hf h
    cases h
    exact hf

def W_M_waitsFor : List (Nat × Nat) := []
theorem fr_lp_M_waitsFor_5 {m0 : jMem} (v1 : Int32) (v2 : Int32) (k164 : Int32 → jMem → Option (Int32 × jMem))
    (hk164 : ∀ (v3 : Int32) (m : jMem) (r : (Int32 × jMem)), jfr W_M_waitsFor m0 m → k164 v3 m = some r → jfr W_M_waitsFor m0 r.2) : ∀ (n : Nat) (v3 : Int32) (v4 : Int32) (m : jMem) (r : (Int32 × jMem)), jfr W_M_waitsFor m0 m → lp_M_waitsFor_5 v1 v2 k164 n v3 v4 m = some r → jfr W_M_waitsFor m0 r.2 := by
  intro n
  induction n with
  | zero => intro v3 v4 m r hf h; unfold lp_M_waitsFor_5 at h; cases h
  | succ n ih =>
    intro v3 v4 m r hf h
    unfold lp_M_waitsFor_5 at h
    refine jem (p := v2 ≤ v4) (fun c => ?_) (fun c => ?_)
    · rw [if_pos c] at h
      exact hk164 v3 m _ hf h
    · rw [if_neg c] at h
      obtain ⟨x1, ex1, g, h⟩ := jld_some h
      refine jem_ne (p := x1 = (2 : Int32)) (fun c => ?_) (fun c => ?_)
      · rw [if_neg c] at h
        obtain ⟨x2, ex2, g, h⟩ := jld_some h
        refine jem_ne (p := x2 = (3 : Int32)) (fun c => ?_) (fun c => ?_)
        · rw [if_neg c] at h
          obtain ⟨x3, ex3, g, h⟩ := jld_some h
          refine jem_ne (p := x3 = (4 : Int32)) (fun c => ?_) (fun c => ?_)
          · rw [if_neg c] at h
            refine jem (p := (0 : Int32) = 0) (fun c => ?_) (fun c => ?_)
            · rw [if_pos c] at h
              exact ih v3 (v4 + (1 : Int32)) m _ hf h
            · rw [if_neg c] at h
              obtain ⟨x4, ex4, g, h⟩ := jld_some h
              refine jem_ne (p := ((x4 >>> (v1 &&& 31)) &&& (1 : Int32)) = (1 : Int32)) (fun c => ?_) (fun c => ?_)
              · rw [if_neg c] at h
                exact ih v3 (v4 + (1 : Int32)) m _ hf h
              · rw [if_pos c] at h
                obtain ⟨x5, ex5, g, h⟩ := jld_some h
                refine jem_ne (p := ((x5 >>> (v4 &&& 31)) &&& (1 : Int32)) = 0) (fun c => ?_) (fun c => ?_)
                · rw [if_neg c] at h
                  exact ih v3 (v4 + (1 : Int32)) m _ hf h
                · rw [if_pos c] at h
                  exact ih (v3 ||| ((1 : Int32) <<< (v4 &&& 31))) (v4 + (1 : Int32)) m _ hf h
          · rw [if_pos c] at h
            obtain ⟨x6, ex6, g, h⟩ := jld_some h
            refine jem_ne (p := ((x6 >>> (v4 &&& 31)) &&& (1 : Int32)) = (1 : Int32)) (fun c => ?_) (fun c => ?_)
            · rw [if_neg c] at h
              refine jem (p := (0 : Int32) = 0) (fun c => ?_) (fun c => ?_)
              · rw [if_pos c] at h
                exact ih v3 (v4 + (1 : Int32)) m _ hf h
              · rw [if_neg c] at h
                obtain ⟨x7, ex7, g, h⟩ := jld_some h
                refine jem_ne (p := ((x7 >>> (v1 &&& 31)) &&& (1 : Int32)) = (1 : Int32)) (fun c => ?_) (fun c => ?_)
                · rw [if_neg c] at h
                  exact ih v3 (v4 + (1 : Int32)) m _ hf h
                · rw [if_pos c] at h
                  obtain ⟨x8, ex8, g, h⟩ := jld_some h
                  refine jem_ne (p := ((x8 >>> (v4 &&& 31)) &&& (1 : Int32)) = 0) (fun c => ?_) (fun c => ?_)
                  · rw [if_neg c] at h
                    exact ih v3 (v4 + (1 : Int32)) m _ hf h
                  · rw [if_pos c] at h
                    exact ih (v3 ||| ((1 : Int32) <<< (v4 &&& 31))) (v4 + (1 : Int32)) m _ hf h
            · rw [if_pos c] at h
              refine jem (p := (1 : Int32) = 0) (fun c => ?_) (fun c => ?_)
              · rw [if_pos c] at h
                exact ih v3 (v4 + (1 : Int32)) m _ hf h
              · rw [if_neg c] at h
                obtain ⟨x9, ex9, g, h⟩ := jld_some h
                refine jem_ne (p := ((x9 >>> (v1 &&& 31)) &&& (1 : Int32)) = (1 : Int32)) (fun c => ?_) (fun c => ?_)
                · rw [if_neg c] at h
                  exact ih v3 (v4 + (1 : Int32)) m _ hf h
                · rw [if_pos c] at h
                  obtain ⟨x10, ex10, g, h⟩ := jld_some h
                  refine jem_ne (p := ((x10 >>> (v4 &&& 31)) &&& (1 : Int32)) = 0) (fun c => ?_) (fun c => ?_)
                  · rw [if_neg c] at h
                    exact ih v3 (v4 + (1 : Int32)) m _ hf h
                  · rw [if_pos c] at h
                    exact ih (v3 ||| ((1 : Int32) <<< (v4 &&& 31))) (v4 + (1 : Int32)) m _ hf h
        · rw [if_pos c] at h
          obtain ⟨x11, ex11, g, h⟩ := jld_some h
          refine jem (p := x11 = v4) (fun c => ?_) (fun c => ?_)
          · rw [if_pos c] at h
            refine jem (p := (1 : Int32) = 0) (fun c => ?_) (fun c => ?_)
            · rw [if_pos c] at h
              exact ih v3 (v4 + (1 : Int32)) m _ hf h
            · rw [if_neg c] at h
              obtain ⟨x12, ex12, g, h⟩ := jld_some h
              refine jem_ne (p := ((x12 >>> (v1 &&& 31)) &&& (1 : Int32)) = (1 : Int32)) (fun c => ?_) (fun c => ?_)
              · rw [if_neg c] at h
                exact ih v3 (v4 + (1 : Int32)) m _ hf h
              · rw [if_pos c] at h
                obtain ⟨x13, ex13, g, h⟩ := jld_some h
                refine jem_ne (p := ((x13 >>> (v4 &&& 31)) &&& (1 : Int32)) = 0) (fun c => ?_) (fun c => ?_)
                · rw [if_neg c] at h
                  exact ih v3 (v4 + (1 : Int32)) m _ hf h
                · rw [if_pos c] at h
                  exact ih (v3 ||| ((1 : Int32) <<< (v4 &&& 31))) (v4 + (1 : Int32)) m _ hf h
          · rw [if_neg c] at h
            obtain ⟨x14, ex14, g, h⟩ := jld_some h
            refine jem_ne (p := x14 = v4) (fun c => ?_) (fun c => ?_)
            · rw [if_neg c] at h
              refine jem (p := (0 : Int32) = 0) (fun c => ?_) (fun c => ?_)
              · rw [if_pos c] at h
                exact ih v3 (v4 + (1 : Int32)) m _ hf h
              · rw [if_neg c] at h
                obtain ⟨x15, ex15, g, h⟩ := jld_some h
                refine jem_ne (p := ((x15 >>> (v1 &&& 31)) &&& (1 : Int32)) = (1 : Int32)) (fun c => ?_) (fun c => ?_)
                · rw [if_neg c] at h
                  exact ih v3 (v4 + (1 : Int32)) m _ hf h
                · rw [if_pos c] at h
                  obtain ⟨x16, ex16, g, h⟩ := jld_some h
                  refine jem_ne (p := ((x16 >>> (v4 &&& 31)) &&& (1 : Int32)) = 0) (fun c => ?_) (fun c => ?_)
                  · rw [if_neg c] at h
                    exact ih v3 (v4 + (1 : Int32)) m _ hf h
                  · rw [if_pos c] at h
                    exact ih (v3 ||| ((1 : Int32) <<< (v4 &&& 31))) (v4 + (1 : Int32)) m _ hf h
            · rw [if_pos c] at h
              refine jem (p := (1 : Int32) = 0) (fun c => ?_) (fun c => ?_)
              · rw [if_pos c] at h
                exact ih v3 (v4 + (1 : Int32)) m _ hf h
              · rw [if_neg c] at h
                obtain ⟨x17, ex17, g, h⟩ := jld_some h
                refine jem_ne (p := ((x17 >>> (v1 &&& 31)) &&& (1 : Int32)) = (1 : Int32)) (fun c => ?_) (fun c => ?_)
                · rw [if_neg c] at h
                  exact ih v3 (v4 + (1 : Int32)) m _ hf h
                · rw [if_pos c] at h
                  obtain ⟨x18, ex18, g, h⟩ := jld_some h
                  refine jem_ne (p := ((x18 >>> (v4 &&& 31)) &&& (1 : Int32)) = 0) (fun c => ?_) (fun c => ?_)
                  · rw [if_neg c] at h
                    exact ih v3 (v4 + (1 : Int32)) m _ hf h
                  · rw [if_pos c] at h
                    exact ih (v3 ||| ((1 : Int32) <<< (v4 &&& 31))) (v4 + (1 : Int32)) m _ hf h
      · rw [if_pos c] at h
        obtain ⟨x19, ex19, g, h⟩ := jld_some h
        obtain ⟨x20, ex20, g, h⟩ := jld_some h
        refine jem_ne (p := x19 = x20) (fun c => ?_) (fun c => ?_)
        · rw [if_neg c] at h
          refine jem (p := (0 : Int32) = 0) (fun c => ?_) (fun c => ?_)
          · rw [if_pos c] at h
            exact ih v3 (v4 + (1 : Int32)) m _ hf h
          · rw [if_neg c] at h
            obtain ⟨x21, ex21, g, h⟩ := jld_some h
            refine jem_ne (p := ((x21 >>> (v1 &&& 31)) &&& (1 : Int32)) = (1 : Int32)) (fun c => ?_) (fun c => ?_)
            · rw [if_neg c] at h
              exact ih v3 (v4 + (1 : Int32)) m _ hf h
            · rw [if_pos c] at h
              obtain ⟨x22, ex22, g, h⟩ := jld_some h
              refine jem_ne (p := ((x22 >>> (v4 &&& 31)) &&& (1 : Int32)) = 0) (fun c => ?_) (fun c => ?_)
              · rw [if_neg c] at h
                exact ih v3 (v4 + (1 : Int32)) m _ hf h
              · rw [if_pos c] at h
                exact ih (v3 ||| ((1 : Int32) <<< (v4 &&& 31))) (v4 + (1 : Int32)) m _ hf h
        · rw [if_pos c] at h
          refine jem (p := (1 : Int32) = 0) (fun c => ?_) (fun c => ?_)
          · rw [if_pos c] at h
            exact ih v3 (v4 + (1 : Int32)) m _ hf h
          · rw [if_neg c] at h
            obtain ⟨x23, ex23, g, h⟩ := jld_some h
            refine jem_ne (p := ((x23 >>> (v1 &&& 31)) &&& (1 : Int32)) = (1 : Int32)) (fun c => ?_) (fun c => ?_)
            · rw [if_neg c] at h
              exact ih v3 (v4 + (1 : Int32)) m _ hf h
            · rw [if_pos c] at h
              obtain ⟨x24, ex24, g, h⟩ := jld_some h
              refine jem_ne (p := ((x24 >>> (v4 &&& 31)) &&& (1 : Int32)) = 0) (fun c => ?_) (fun c => ?_)
              · rw [if_neg c] at h
                exact ih v3 (v4 + (1 : Int32)) m _ hf h
              · rw [if_pos c] at h
                exact ih (v3 ||| ((1 : Int32) <<< (v4 &&& 31))) (v4 + (1 : Int32)) m _ hf h
theorem fr_M_waitsFor {v1 : Int32} {v2 : Int32} {m : jMem} {r : (Int32 × jMem)} (h : f_M_waitsFor v1 v2 m = some r) : jfr W_M_waitsFor m r.2 := by
  unfold f_M_waitsFor at h
  have hf : jfr W_M_waitsFor m m := jfr_rf
  refine fr_lp_M_waitsFor_5 v1 v2 _ ?_ _ (0 : Int32) (0 : Int32) m _ hf h
  intro w26 m25 r hf h
  cases h
  exact hf

def W_M_isBefore : List (Nat × Nat) := []
theorem fr_M_isBefore {v1 : Int32} {v2 : Int32} {m : jMem} {r : (Int32 × jMem)} (h : f_M_isBefore v1 v2 m = some r) : jfr W_M_isBefore m r.2 := by
  unfold f_M_isBefore at h
  have hf : jfr W_M_isBefore m m := jfr_rf
  obtain ⟨x1, ex1, g, h⟩ := jld_some h
  refine jem_ne (p := ((x1 >>> (v1 &&& 31)) &&& (1 : Int32)) = (1 : Int32)) (fun c => ?_) (fun c => ?_)
  · rw [if_neg c] at h
    cases h
    exact hf
  · rw [if_pos c] at h
    cases h
    exact hf

def W_M_sumOf : List (Nat × Nat) := [(140, 0)]
theorem fr_lp_M_sumOf_19 {m0 : jMem} (v1 : Int32) (v2 : Int32) (v3 : Int32) (k65 : jMem → Option (Int32 × jMem))
    (hk65 : ∀ (m : jMem) (r : (Int32 × jMem)), jfr W_M_sumOf m0 m → k65 m = some r → jfr W_M_sumOf m0 r.2) : ∀ (n : Nat) (v4 : Int32) (m : jMem) (r : (Int32 × jMem)), jfr W_M_sumOf m0 m → lp_M_sumOf_19 v1 v2 v3 k65 n v4 m = some r → jfr W_M_sumOf m0 r.2 := by
  intro n
  induction n with
  | zero => intro v4 m r hf h; unfold lp_M_sumOf_19 at h; cases h
  | succ n ih =>
    intro v4 m r hf h
    unfold lp_M_sumOf_19 at h
    refine jem (p := v3 ≤ v4) (fun c => ?_) (fun c => ?_)
    · rw [if_pos c] at h
      exact hk65  m _ hf h
    · rw [if_neg c] at h
      obtain ⟨x2, m3, zm3, h⟩ := jbd_some h
      replace hf := jfr_tr hf (jfr_sub (W := W_M_isBefore) rfl (fr_M_isBefore zm3))
      refine jem (p := x2 = 0) (fun c => ?_) (fun c => ?_)
      · rw [if_pos c] at h
        exact ih (v4 + (1 : Int32)) m3 _ hf h
      · rw [if_neg c] at h
        obtain ⟨x4, ex4, g, h⟩ := jld_some h
        obtain ⟨x5, ex5, g, h⟩ := jld_some h
        obtain ⟨m6, hm6, g, h⟩ := jst_some h
        replace hf := jfr_tr hf (jfr_ua hm6 rfl)
        exact ih (v4 + (1 : Int32)) m6 _ hf h
theorem fr_lp_M_sumOf_4 {m0 : jMem} (v1 : Int32) (k91 : Int32 → jMem → Option (Int32 × jMem))
    (hk91 : ∀ (v2 : Int32) (m : jMem) (r : (Int32 × jMem)), jfr W_M_sumOf m0 m → k91 v2 m = some r → jfr W_M_sumOf m0 r.2) : ∀ (n : Nat) (v2 : Int32) (v3 : Int32) (m : jMem) (r : (Int32 × jMem)), jfr W_M_sumOf m0 m → lp_M_sumOf_4 v1 k91 n v2 v3 m = some r → jfr W_M_sumOf m0 r.2 := by
  intro n
  induction n with
  | zero => intro v2 v3 m r hf h; unfold lp_M_sumOf_4 at h; cases h
  | succ n ih =>
    intro v2 v3 m r hf h
    unfold lp_M_sumOf_4 at h
    refine jem (p := v1 ≤ v3) (fun c => ?_) (fun c => ?_)
    · rw [if_pos c] at h
      exact hk91 v2 m _ hf h
    · rw [if_neg c] at h
      obtain ⟨m1, hm1, g, h⟩ := jst_some h
      replace hf := jfr_tr hf (jfr_ua hm1 rfl)
      refine fr_lp_M_sumOf_19 v1 v2 v3 _ ?_ _ (0 : Int32) m1 _ hf h
      intro m7 r hf h
      obtain ⟨x8, m9, zm9, h⟩ := jbd_some h
      replace hf := jfr_tr hf (jfr_sub (W := W_M_isBefore) rfl (fr_M_isBefore zm9))
      refine jem (p := x8 = 0) (fun c => ?_) (fun c => ?_)
      · rw [if_pos c] at h
        exact ih v2 (v3 + (1 : Int32)) m9 _ hf h
      · rw [if_neg c] at h
        obtain ⟨x10, ex10, g, h⟩ := jld_some h
        exact ih (jmax v2 x10) (v3 + (1 : Int32)) m9 _ hf h
theorem fr_M_sumOf {v1 : Int32} {m : jMem} {r : (Int32 × jMem)} (h : f_M_sumOf v1 m = some r) : jfr W_M_sumOf m r.2 := by
  unfold f_M_sumOf at h
  have hf : jfr W_M_sumOf m m := jfr_rf
  refine fr_lp_M_sumOf_4 v1 _ ?_ _ (0 : Int32) (0 : Int32) m _ hf h
  intro w12 m11 r hf h
  cases h
  exact hf

def W_M_answers : List (Nat × Nat) := [(109, 31), (109, 34), (109, 45), (118, 0), (119, 0), (121, 0), (122, 0), (123, 0), (124, 0), (125, 0), (126, 0), (127, 0), (128, 0), (129, 0), (130, 0), (131, 0), (132, 0), (133, 0), (134, 0), (135, 0), (136, 0), (140, 0)]
theorem fr_lp_M_answers_121 {m0 : jMem} (v1 : Int32) (v2 : Int32) (v3 : Int32) (k165 : jMem → Option (Unit × jMem))
    (hk165 : ∀ (m : jMem) (r : (Unit × jMem)), jfr W_M_answers m0 m → k165 m = some r → jfr W_M_answers m0 r.2) : ∀ (n : Nat) (v4 : Int32) (m : jMem) (r : (Unit × jMem)), jfr W_M_answers m0 m → lp_M_answers_121 v1 v2 v3 k165 n v4 m = some r → jfr W_M_answers m0 r.2 := by
  intro n
  induction n with
  | zero => intro v4 m r hf h; unfold lp_M_answers_121 at h; cases h
  | succ n ih =>
    intro v4 m r hf h
    unfold lp_M_answers_121 at h
    refine jem (p := (m 109 33) ≤ v4) (fun c => ?_) (fun c => ?_)
    · rw [if_pos c] at h
      exact hk165  m _ hf h
    · rw [if_neg c] at h
      obtain ⟨x22, ex22, g, h⟩ := jld_some h
      obtain ⟨x23, ex23, g, h⟩ := jld_some h
      refine jem_ne (p := x23 = v2) (fun c => ?_) (fun c => ?_)
      · rw [if_neg c] at h
        obtain ⟨x24, m25, zm25, h⟩ := jbd_some h
        replace hf := jfr_tr hf (jfr_sub (W := W_M_is) rfl (fr_M_is zm25))
        obtain ⟨m26, hm26, g, h⟩ := jst_some h
        replace hf := jfr_tr hf (jfr_ua hm26 rfl)
        exact ih (v4 + (1 : Int32)) m26 _ hf h
      · rw [if_pos c] at h
        obtain ⟨x27, m28, zm28, h⟩ := jbd_some h
        replace hf := jfr_tr hf (jfr_sub (W := W_M_is) rfl (fr_M_is zm28))
        obtain ⟨m29, hm29, g, h⟩ := jst_some h
        replace hf := jfr_tr hf (jfr_ua hm29 rfl)
        exact ih (v4 + (1 : Int32)) m29 _ hf h
theorem fr_M_answers {v1 : Int32} {v2 : Int32} {v3 : Int32} {m : jMem} {r : (Unit × jMem)} (h : f_M_answers v1 v2 v3 m = some r) : jfr W_M_answers m r.2 := by
  unfold f_M_answers at h
  have hf : jfr W_M_answers m m := jfr_rf
  obtain ⟨x1, ex1, g, h⟩ := jld_some h
  obtain ⟨m2, hm2, g, h⟩ := jst_some h
  replace hf := jfr_tr hf (jfr_ua hm2 rfl)
  obtain ⟨x3, ex3, g, h⟩ := jld_some h
  obtain ⟨m4, hm4, g, h⟩ := jst_some h
  replace hf := jfr_tr hf (jfr_ua hm4 rfl)
  obtain ⟨x5, ex5, g, h⟩ := jld_some h
  obtain ⟨m6, hm6, g, h⟩ := jst_some h
  replace hf := jfr_tr hf (jfr_ua hm6 rfl)
  obtain ⟨x7, ex7, g, h⟩ := jld_some h
  obtain ⟨x8, m9, zm9, h⟩ := jbd_some h
  replace hf := jfr_tr hf (jfr_sub (W := W_M_bits) rfl (fr_M_bits zm9))
  obtain ⟨m10, hm10, g, h⟩ := jst_some h
  replace hf := jfr_tr hf (jfr_ua hm10 rfl)
  obtain ⟨x11, m12, zm12, h⟩ := jbd_some h
  replace hf := jfr_tr hf (jfr_sub (W := W_M_sumOf) rfl (fr_M_sumOf zm12))
  obtain ⟨m13, hm13, g, h⟩ := jst_some h
  replace hf := jfr_tr hf (jfr_ua hm13 rfl)
  obtain ⟨x14, ex14, g, h⟩ := jld_some h
  refine jem (p := x14 = (-1 : Int32)) (fun c => ?_) (fun c => ?_)
  · rw [if_pos c] at h
    obtain ⟨x15, m16, zm16, h⟩ := jbd_some h
    replace hf := jfr_tr hf (jfr_sub (W := W_M_is) rfl (fr_M_is zm16))
    obtain ⟨x17, ex17, g, h⟩ := jld_some h
    refine jem (p := x17 = (-1 : Int32)) (fun c => ?_) (fun c => ?_)
    · rw [if_pos c] at h
      obtain ⟨x18, m19, zm19, h⟩ := jbd_some h
      replace hf := jfr_tr hf (jfr_sub (W := W_M_is) rfl (fr_M_is zm19))
      obtain ⟨m20, hm20, g, h⟩ := jst_some h
      replace hf := jfr_tr hf (jfr_ua hm20 rfl)
      obtain ⟨m21, hm21, g, h⟩ := jst_some h
      replace hf := jfr_tr hf (jfr_ua hm21 rfl)
      refine fr_lp_M_answers_121 v1 v2 v3 _ ?_ _ (0 : Int32) m21 _ hf h
      intro m30 r hf h
      obtain ⟨x31, ex31, g, h⟩ := jld_some h
      refine jem (p := x31 = 0) (fun c => ?_) (fun c => ?_)
      · rw [if_pos c] at h
        obtain ⟨x32, ex32, g, h⟩ := jld_some h
        obtain ⟨x33, m34, zm34, h⟩ := jbd_some h
        replace hf := jfr_tr hf (jfr_sub (W := W_M_holdsE) rfl (fr_M_holdsE zm34))
        refine jem (p := x33 = 0) (fun c => ?_) (fun c => ?_)
        · rw [if_pos c] at h
          cases h
          exact hf
        · rw [if_neg c] at h
          obtain ⟨x35, m36, zm36, h⟩ := jbd_some h
          replace hf := jfr_tr hf (jfr_sub (W := W_M_hasRoom) rfl (fr_M_hasRoom zm36))
          refine jem (p := x35 = 0) (fun c => ?_) (fun c => ?_)
          · rw [if_pos c] at h
            cases h
            exact hf
          · rw [if_neg c] at h
            obtain ⟨u37, m38, zm38, h⟩ := jbd_some h
            replace hf := jfr_tr hf (jfr_sub (W := W_M_written) rfl (fr_M_written zm38))
            cases h
            exact hf
      · rw [if_neg c] at h
        obtain ⟨x39, m40, zm40, h⟩ := jbd_some h
        replace hf := jfr_tr hf (jfr_sub (W := W_M_holdsE) rfl (fr_M_holdsE zm40))
        refine jem (p := x39 = 0) (fun c => ?_) (fun c => ?_)
        · rw [if_pos c] at h
          cases h
          exact hf
        · rw [if_neg c] at h
          obtain ⟨x41, m42, zm42, h⟩ := jbd_some h
          replace hf := jfr_tr hf (jfr_sub (W := W_M_hasRoom) rfl (fr_M_hasRoom zm42))
          refine jem (p := x41 = 0) (fun c => ?_) (fun c => ?_)
          · rw [if_pos c] at h
            cases h
            exact hf
          · rw [if_neg c] at h
            obtain ⟨u43, m44, zm44, h⟩ := jbd_some h
            replace hf := jfr_tr hf (jfr_sub (W := W_M_written) rfl (fr_M_written zm44))
            cases h
            exact hf
    · rw [if_neg c] at h
      obtain ⟨x45, m46, zm46, h⟩ := jbd_some h
      replace hf := jfr_tr hf (jfr_sub (W := W_M_is) rfl (fr_M_is zm46))
      obtain ⟨m47, hm47, g, h⟩ := jst_some h
      replace hf := jfr_tr hf (jfr_ua hm47 rfl)
      obtain ⟨m48, hm48, g, h⟩ := jst_some h
      replace hf := jfr_tr hf (jfr_ua hm48 rfl)
      refine fr_lp_M_answers_121 v1 v2 v3 _ ?_ _ (0 : Int32) m48 _ hf h
      intro m49 r hf h
      obtain ⟨x50, ex50, g, h⟩ := jld_some h
      refine jem (p := x50 = 0) (fun c => ?_) (fun c => ?_)
      · rw [if_pos c] at h
        obtain ⟨x51, ex51, g, h⟩ := jld_some h
        obtain ⟨x52, m53, zm53, h⟩ := jbd_some h
        replace hf := jfr_tr hf (jfr_sub (W := W_M_holdsE) rfl (fr_M_holdsE zm53))
        refine jem (p := x52 = 0) (fun c => ?_) (fun c => ?_)
        · rw [if_pos c] at h
          cases h
          exact hf
        · rw [if_neg c] at h
          obtain ⟨x54, m55, zm55, h⟩ := jbd_some h
          replace hf := jfr_tr hf (jfr_sub (W := W_M_hasRoom) rfl (fr_M_hasRoom zm55))
          refine jem (p := x54 = 0) (fun c => ?_) (fun c => ?_)
          · rw [if_pos c] at h
            cases h
            exact hf
          · rw [if_neg c] at h
            obtain ⟨u56, m57, zm57, h⟩ := jbd_some h
            replace hf := jfr_tr hf (jfr_sub (W := W_M_written) rfl (fr_M_written zm57))
            cases h
            exact hf
      · rw [if_neg c] at h
        obtain ⟨x58, m59, zm59, h⟩ := jbd_some h
        replace hf := jfr_tr hf (jfr_sub (W := W_M_holdsE) rfl (fr_M_holdsE zm59))
        refine jem (p := x58 = 0) (fun c => ?_) (fun c => ?_)
        · rw [if_pos c] at h
          cases h
          exact hf
        · rw [if_neg c] at h
          obtain ⟨x60, m61, zm61, h⟩ := jbd_some h
          replace hf := jfr_tr hf (jfr_sub (W := W_M_hasRoom) rfl (fr_M_hasRoom zm61))
          refine jem (p := x60 = 0) (fun c => ?_) (fun c => ?_)
          · rw [if_pos c] at h
            cases h
            exact hf
          · rw [if_neg c] at h
            obtain ⟨u62, m63, zm63, h⟩ := jbd_some h
            replace hf := jfr_tr hf (jfr_sub (W := W_M_written) rfl (fr_M_written zm63))
            cases h
            exact hf
  · rw [if_neg c] at h
    obtain ⟨x64, m65, zm65, h⟩ := jbd_some h
    replace hf := jfr_tr hf (jfr_sub (W := W_M_is) rfl (fr_M_is zm65))
    obtain ⟨x66, ex66, g, h⟩ := jld_some h
    refine jem (p := x66 = (-1 : Int32)) (fun c => ?_) (fun c => ?_)
    · rw [if_pos c] at h
      obtain ⟨x67, m68, zm68, h⟩ := jbd_some h
      replace hf := jfr_tr hf (jfr_sub (W := W_M_is) rfl (fr_M_is zm68))
      obtain ⟨m69, hm69, g, h⟩ := jst_some h
      replace hf := jfr_tr hf (jfr_ua hm69 rfl)
      obtain ⟨m70, hm70, g, h⟩ := jst_some h
      replace hf := jfr_tr hf (jfr_ua hm70 rfl)
      refine fr_lp_M_answers_121 v1 v2 v3 _ ?_ _ (0 : Int32) m70 _ hf h
      intro m71 r hf h
      obtain ⟨x72, ex72, g, h⟩ := jld_some h
      refine jem (p := x72 = 0) (fun c => ?_) (fun c => ?_)
      · rw [if_pos c] at h
        obtain ⟨x73, ex73, g, h⟩ := jld_some h
        obtain ⟨x74, m75, zm75, h⟩ := jbd_some h
        replace hf := jfr_tr hf (jfr_sub (W := W_M_holdsE) rfl (fr_M_holdsE zm75))
        refine jem (p := x74 = 0) (fun c => ?_) (fun c => ?_)
        · rw [if_pos c] at h
          cases h
          exact hf
        · rw [if_neg c] at h
          obtain ⟨x76, m77, zm77, h⟩ := jbd_some h
          replace hf := jfr_tr hf (jfr_sub (W := W_M_hasRoom) rfl (fr_M_hasRoom zm77))
          refine jem (p := x76 = 0) (fun c => ?_) (fun c => ?_)
          · rw [if_pos c] at h
            cases h
            exact hf
          · rw [if_neg c] at h
            obtain ⟨u78, m79, zm79, h⟩ := jbd_some h
            replace hf := jfr_tr hf (jfr_sub (W := W_M_written) rfl (fr_M_written zm79))
            cases h
            exact hf
      · rw [if_neg c] at h
        obtain ⟨x80, m81, zm81, h⟩ := jbd_some h
        replace hf := jfr_tr hf (jfr_sub (W := W_M_holdsE) rfl (fr_M_holdsE zm81))
        refine jem (p := x80 = 0) (fun c => ?_) (fun c => ?_)
        · rw [if_pos c] at h
          cases h
          exact hf
        · rw [if_neg c] at h
          obtain ⟨x82, m83, zm83, h⟩ := jbd_some h
          replace hf := jfr_tr hf (jfr_sub (W := W_M_hasRoom) rfl (fr_M_hasRoom zm83))
          refine jem (p := x82 = 0) (fun c => ?_) (fun c => ?_)
          · rw [if_pos c] at h
            cases h
            exact hf
          · rw [if_neg c] at h
            obtain ⟨u84, m85, zm85, h⟩ := jbd_some h
            replace hf := jfr_tr hf (jfr_sub (W := W_M_written) rfl (fr_M_written zm85))
            cases h
            exact hf
    · rw [if_neg c] at h
      obtain ⟨x86, m87, zm87, h⟩ := jbd_some h
      replace hf := jfr_tr hf (jfr_sub (W := W_M_is) rfl (fr_M_is zm87))
      obtain ⟨m88, hm88, g, h⟩ := jst_some h
      replace hf := jfr_tr hf (jfr_ua hm88 rfl)
      obtain ⟨m89, hm89, g, h⟩ := jst_some h
      replace hf := jfr_tr hf (jfr_ua hm89 rfl)
      refine fr_lp_M_answers_121 v1 v2 v3 _ ?_ _ (0 : Int32) m89 _ hf h
      intro m90 r hf h
      obtain ⟨x91, ex91, g, h⟩ := jld_some h
      refine jem (p := x91 = 0) (fun c => ?_) (fun c => ?_)
      · rw [if_pos c] at h
        obtain ⟨x92, ex92, g, h⟩ := jld_some h
        obtain ⟨x93, m94, zm94, h⟩ := jbd_some h
        replace hf := jfr_tr hf (jfr_sub (W := W_M_holdsE) rfl (fr_M_holdsE zm94))
        refine jem (p := x93 = 0) (fun c => ?_) (fun c => ?_)
        · rw [if_pos c] at h
          cases h
          exact hf
        · rw [if_neg c] at h
          obtain ⟨x95, m96, zm96, h⟩ := jbd_some h
          replace hf := jfr_tr hf (jfr_sub (W := W_M_hasRoom) rfl (fr_M_hasRoom zm96))
          refine jem (p := x95 = 0) (fun c => ?_) (fun c => ?_)
          · rw [if_pos c] at h
            cases h
            exact hf
          · rw [if_neg c] at h
            obtain ⟨u97, m98, zm98, h⟩ := jbd_some h
            replace hf := jfr_tr hf (jfr_sub (W := W_M_written) rfl (fr_M_written zm98))
            cases h
            exact hf
      · rw [if_neg c] at h
        obtain ⟨x99, m100, zm100, h⟩ := jbd_some h
        replace hf := jfr_tr hf (jfr_sub (W := W_M_holdsE) rfl (fr_M_holdsE zm100))
        refine jem (p := x99 = 0) (fun c => ?_) (fun c => ?_)
        · rw [if_pos c] at h
          cases h
          exact hf
        · rw [if_neg c] at h
          obtain ⟨x101, m102, zm102, h⟩ := jbd_some h
          replace hf := jfr_tr hf (jfr_sub (W := W_M_hasRoom) rfl (fr_M_hasRoom zm102))
          refine jem (p := x101 = 0) (fun c => ?_) (fun c => ?_)
          · rw [if_pos c] at h
            cases h
            exact hf
          · rw [if_neg c] at h
            obtain ⟨u103, m104, zm104, h⟩ := jbd_some h
            replace hf := jfr_tr hf (jfr_sub (W := W_M_written) rfl (fr_M_written zm104))
            cases h
            exact hf

def W_M_readsNow : List (Nat × Nat) := [(109, 31), (109, 34), (109, 45), (109, 58), (118, 0), (119, 0), (121, 0), (122, 0), (123, 0), (124, 0), (125, 0), (126, 0), (127, 0), (128, 0), (129, 0), (130, 0), (131, 0), (132, 0), (133, 0), (134, 0), (135, 0), (136, 0), (137, 0), (138, 0), (140, 0)]
theorem fr_lp_M_readsNow_20 {m0 : jMem} (v1 : Int32) (v2 : Int32) (k63 : jMem → Option (Unit × jMem))
    (hk63 : ∀ (m : jMem) (r : (Unit × jMem)), jfr W_M_readsNow m0 m → k63 m = some r → jfr W_M_readsNow m0 r.2) : ∀ (n : Nat) (v4 : Int32) (m : jMem) (r : (Unit × jMem)), jfr W_M_readsNow m0 m → lp_M_readsNow_20 v1 v2 k63 n v4 m = some r → jfr W_M_readsNow m0 r.2 := by
  intro n
  induction n with
  | zero => intro v4 m r hf h; unfold lp_M_readsNow_20 at h; cases h
  | succ n ih =>
    intro v4 m r hf h
    unfold lp_M_readsNow_20 at h
    obtain ⟨x5, ex5, g, h⟩ := jld_some h
    refine jem (p := x5 ≤ v4) (fun c => ?_) (fun c => ?_)
    · rw [if_pos c] at h
      exact hk63  m _ hf h
    · rw [if_neg c] at h
      obtain ⟨x6, ex6, g, h⟩ := jld_some h
      obtain ⟨m7, hm7, g, h⟩ := jst_some h
      replace hf := jfr_tr hf (jfr_ua hm7 rfl)
      exact ih (v4 + (1 : Int32)) m7 _ hf h
theorem fr_lp_M_readsNow_103 {m0 : jMem} (v1 : Int32) (v2 : Int32) (k151 : jMem → Option (Unit × jMem))
    (hk151 : ∀ (m : jMem) (r : (Unit × jMem)), jfr W_M_readsNow m0 m → k151 m = some r → jfr W_M_readsNow m0 r.2) : ∀ (n : Nat) (v4 : Int32) (m : jMem) (r : (Unit × jMem)), jfr W_M_readsNow m0 m → lp_M_readsNow_103 v1 v2 k151 n v4 m = some r → jfr W_M_readsNow m0 r.2 := by
  intro n
  induction n with
  | zero => intro v4 m r hf h; unfold lp_M_readsNow_103 at h; cases h
  | succ n ih =>
    intro v4 m r hf h
    unfold lp_M_readsNow_103 at h
    refine jem (p := (m 109 11) ≤ v4) (fun c => ?_) (fun c => ?_)
    · rw [if_pos c] at h
      exact hk151  m _ hf h
    · rw [if_neg c] at h
      obtain ⟨x13, ex13, g, h⟩ := jld_some h
      refine jem (p := x13 = 0) (fun c => ?_) (fun c => ?_)
      · rw [if_pos c] at h
        obtain ⟨u14, m15, zm15, h⟩ := jbd_some h
        replace hf := jfr_tr hf (jfr_sub (W := W_M_answers) rfl (fr_M_answers zm15))
        exact ih (v4 + (1 : Int32)) m15 _ hf h
      · rw [if_neg c] at h
        obtain ⟨x16, ex16, g, h⟩ := jld_some h
        refine jem_ne (p := ((x16 >>> (v1 &&& 31)) &&& (1 : Int32)) = (1 : Int32)) (fun c => ?_) (fun c => ?_)
        · rw [if_neg c] at h
          exact ih (v4 + (1 : Int32)) m _ hf h
        · rw [if_pos c] at h
          obtain ⟨u17, m18, zm18, h⟩ := jbd_some h
          replace hf := jfr_tr hf (jfr_sub (W := W_M_answers) rfl (fr_M_answers zm18))
          exact ih (v4 + (1 : Int32)) m18 _ hf h
theorem fr_M_readsNow {v1 : Int32} {v2 : Int32} {m : jMem} {r : (Unit × jMem)} (h : f_M_readsNow v1 v2 m = some r) : jfr W_M_readsNow m r.2 := by
  unfold f_M_readsNow at h
  have hf : jfr W_M_readsNow m m := jfr_rf
  obtain ⟨x1, m2, zm2, h⟩ := jbd_some h
  replace hf := jfr_tr hf (jfr_sub (W := W_M_deskPlace) rfl (fr_M_deskPlace zm2))
  obtain ⟨x3, ex3, g, h⟩ := jld_some h
  obtain ⟨m4, hm4, g, h⟩ := jst_some h
  replace hf := jfr_tr hf (jfr_ua hm4 rfl)
  refine fr_lp_M_readsNow_20 v1 v2 _ ?_ _ x1 m4 _ hf h
  intro m8 r hf h
  obtain ⟨x9, ex9, g, h⟩ := jld_some h
  obtain ⟨m10, hm10, g, h⟩ := jst_some h
  replace hf := jfr_tr hf (jfr_ua hm10 rfl)
  obtain ⟨m11, hm11, g, h⟩ := jst_some h
  replace hf := jfr_tr hf (jfr_ua hm11 rfl)
  obtain ⟨m12, hm12, h⟩ := jpu_some h
  replace hf := jfr_tr hf (jfr_up hm12 rfl)
  refine fr_lp_M_readsNow_103 v1 v2 _ ?_ _ (0 : Int32) m12 _ hf h
  intro m19 r hf h
  cases h
  exact hf

def W_M_goesBy : List (Nat × Nat) := [(109, 31), (109, 32), (109, 34), (109, 45), (109, 58), (118, 0), (119, 0), (121, 0), (122, 0), (123, 0), (124, 0), (125, 0), (126, 0), (127, 0), (128, 0), (129, 0), (130, 0), (131, 0), (132, 0), (133, 0), (134, 0), (135, 0), (136, 0), (137, 0), (138, 0), (140, 0)]
theorem fr_lp_M_goesBy_12 {m0 : jMem} (k134 : jMem → Option (Unit × jMem))
    (hk134 : ∀ (m : jMem) (r : (Unit × jMem)), jfr W_M_goesBy m0 m → k134 m = some r → jfr W_M_goesBy m0 r.2) : ∀ (n : Nat) (v1 : Int32) (m : jMem) (r : (Unit × jMem)), jfr W_M_goesBy m0 m → lp_M_goesBy_12 k134 n v1 m = some r → jfr W_M_goesBy m0 r.2 := by
  intro n
  induction n with
  | zero => intro v1 m r hf h; unfold lp_M_goesBy_12 at h; cases h
  | succ n ih =>
    intro v1 m r hf h
    unfold lp_M_goesBy_12 at h
    refine jem (p := (m 109 44) ≤ v1) (fun c => ?_) (fun c => ?_)
    · rw [if_pos c] at h
      exact hk134  m _ hf h
    · rw [if_neg c] at h
      obtain ⟨x2, ex2, g, h⟩ := jld_some h
      refine jem_ne (p := x2 = 0) (fun c => ?_) (fun c => ?_)
      · rw [if_neg c] at h
        exact ih (v1 + (1 : Int32)) m _ hf h
      · rw [if_pos c] at h
        obtain ⟨x3, ex3, g, h⟩ := jld_some h
        refine jem (p := x3 = (m 109 31)) (fun c => ?_) (fun c => ?_)
        · rw [if_pos c] at h
          obtain ⟨m4, hm4, g, h⟩ := jst_some h
          replace hf := jfr_tr hf (jfr_ua hm4 rfl)
          obtain ⟨x5, ex5, g, h⟩ := jld_some h
          obtain ⟨x6, ex6, g, h⟩ := jld_some h
          obtain ⟨x7, ex7, g, h⟩ := jld_some h
          refine jem (p := ((x6 >>> (x7 &&& 31)) &&& (1 : Int32)) = (1 : Int32)) (fun c => ?_) (fun c => ?_)
          · rw [if_pos c] at h
            exact ih (v1 + (1 : Int32)) m4 _ hf h
          · rw [if_neg c] at h
            obtain ⟨x8, ex8, g, h⟩ := jld_some h
            obtain ⟨x9, m10, zm10, h⟩ := jbd_some h
            replace hf := jfr_tr hf (jfr_sub (W := W_M_deskPlace) rfl (fr_M_deskPlace zm10))
            refine jem (p := x9 = (-1 : Int32)) (fun c => ?_) (fun c => ?_)
            · rw [if_pos c] at h
              obtain ⟨x11, ex11, g, h⟩ := jld_some h
              obtain ⟨x12, ex12, g, h⟩ := jld_some h
              obtain ⟨m13, hm13, g, h⟩ := jst_some h
              replace hf := jfr_tr hf (jfr_ua hm13 rfl)
              obtain ⟨x14, ex14, g, h⟩ := jld_some h
              obtain ⟨m15, hm15, g, h⟩ := jst_some h
              replace hf := jfr_tr hf (jfr_ua hm15 rfl)
              exact ih (v1 + (1 : Int32)) m15 _ hf h
            · rw [if_neg c] at h
              exact ih (v1 + (1 : Int32)) m10 _ hf h
        · rw [if_neg c] at h
          exact ih (v1 + (1 : Int32)) m _ hf h
theorem fr_lp_M_goesBy_144 {m0 : jMem} (v1 : Int32) (k201 : jMem → Option (Unit × jMem))
    (hk201 : ∀ (m : jMem) (r : (Unit × jMem)), jfr W_M_goesBy m0 m → k201 m = some r → jfr W_M_goesBy m0 r.2) : ∀ (n : Nat) (v2 : Int32) (m : jMem) (r : (Unit × jMem)), jfr W_M_goesBy m0 m → lp_M_goesBy_144 v1 k201 n v2 m = some r → jfr W_M_goesBy m0 r.2 := by
  intro n
  induction n with
  | zero => intro v2 m r hf h; unfold lp_M_goesBy_144 at h; cases h
  | succ n ih =>
    intro v2 m r hf h
    unfold lp_M_goesBy_144 at h
    obtain ⟨x17, ex17, g, h⟩ := jld_some h
    refine jem (p := x17 ≤ v2) (fun c => ?_) (fun c => ?_)
    · rw [if_pos c] at h
      exact hk201  m _ hf h
    · rw [if_neg c] at h
      obtain ⟨x18, ex18, g, h⟩ := jld_some h
      obtain ⟨x19, ex19, g, h⟩ := jld_some h
      refine jem (p := x19 = 0) (fun c => ?_) (fun c => ?_)
      · rw [if_pos c] at h
        exact ih (v2 + (1 : Int32)) m _ hf h
      · rw [if_neg c] at h
        obtain ⟨x20, m21, zm21, h⟩ := jbd_some h
        replace hf := jfr_tr hf (jfr_sub (W := W_M_waitsFor) rfl (fr_M_waitsFor zm21))
        refine jem (p := x20 = 0) (fun c => ?_) (fun c => ?_)
        · rw [if_pos c] at h
          obtain ⟨u22, m23, zm23, h⟩ := jbd_some h
          replace hf := jfr_tr hf (jfr_sub (W := W_M_readsNow) rfl (fr_M_readsNow zm23))
          exact ih (0 : Int32) m23 _ hf h
        · rw [if_neg c] at h
          exact ih (v2 + (1 : Int32)) m21 _ hf h
theorem fr_lp_M_goesBy_136 {m0 : jMem} (k207 : jMem → Option (Unit × jMem))
    (hk207 : ∀ (m : jMem) (r : (Unit × jMem)), jfr W_M_goesBy m0 m → k207 m = some r → jfr W_M_goesBy m0 r.2) : ∀ (n : Nat) (v1 : Int32) (m : jMem) (r : (Unit × jMem)), jfr W_M_goesBy m0 m → lp_M_goesBy_136 k207 n v1 m = some r → jfr W_M_goesBy m0 r.2 := by
  intro n
  induction n with
  | zero => intro v1 m r hf h; unfold lp_M_goesBy_136 at h; cases h
  | succ n ih =>
    intro v1 m r hf h
    unfold lp_M_goesBy_136 at h
    refine jem (p := (6 : Int32) ≤ v1) (fun c => ?_) (fun c => ?_)
    · rw [if_pos c] at h
      exact hk207  m _ hf h
    · rw [if_neg c] at h
      refine fr_lp_M_goesBy_144 v1 _ ?_ _ (0 : Int32) m _ hf h
      intro m24 r hf h
      exact ih (v1 + (1 : Int32)) m24 _ hf h
theorem fr_M_goesBy {m : jMem} {r : (Unit × jMem)} (h : f_M_goesBy m = some r) : jfr W_M_goesBy m r.2 := by
  unfold f_M_goesBy at h
  have hf : jfr W_M_goesBy m m := jfr_rf
  obtain ⟨m1, hm1, h⟩ := jpu_some h
  replace hf := jfr_tr hf (jfr_up hm1 rfl)
  refine fr_lp_M_goesBy_12 _ ?_ _ (0 : Int32) m1 _ hf h
  intro m16 r hf h
  refine fr_lp_M_goesBy_136 _ ?_ _ (0 : Int32) m16 _ hf h
  intro m25 r hf h
  cases h
  exact hf

def W_M_days : List (Nat × Nat) := [(109, 1), (109, 31), (109, 32), (109, 34), (109, 45), (109, 58), (118, 0), (119, 0), (121, 0), (122, 0), (123, 0), (124, 0), (125, 0), (126, 0), (127, 0), (128, 0), (129, 0), (130, 0), (131, 0), (132, 0), (133, 0), (134, 0), (135, 0), (136, 0), (137, 0), (138, 0), (140, 0)]
theorem fr_lp_M_days_31 {m0 : jMem} (v1 : Int32) (k46 : jMem → Option (Int32 × jMem))
    (hk46 : ∀ (m : jMem) (r : (Int32 × jMem)), jfr W_M_days m0 m → k46 m = some r → jfr W_M_days m0 r.2) : ∀ (n : Nat) (v2 : Int32) (m : jMem) (r : (Int32 × jMem)), jfr W_M_days m0 m → lp_M_days_31 v1 k46 n v2 m = some r → jfr W_M_days m0 r.2 := by
  intro n
  induction n with
  | zero => intro v2 m r hf h; unfold lp_M_days_31 at h; cases h
  | succ n ih =>
    intro v2 m r hf h
    unfold lp_M_days_31 at h
    refine jem (p := v1 ≤ v2) (fun c => ?_) (fun c => ?_)
    · rw [if_pos c] at h
      exact hk46  m _ hf h
    · rw [if_neg c] at h
      obtain ⟨u2, m3, zm3, h⟩ := jbd_some h
      replace hf := jfr_tr hf (jfr_sub (W := W_M_goesBy) rfl (fr_M_goesBy zm3))
      exact ih (v2 + (1 : Int32)) m3 _ hf h
theorem fr_M_days {v1 : Int32} {m : jMem} {r : (Int32 × jMem)} (h : f_M_days v1 m = some r) : jfr W_M_days m r.2 := by
  unfold f_M_days at h
  have hf : jfr W_M_days m m := jfr_rf
  obtain ⟨m1, hm1, h⟩ := jpu_some h
  replace hf := jfr_tr hf (jfr_up hm1 rfl)
  refine jem (p := v1 < 0) (fun c => ?_) (fun c => ?_)
  · rw [if_pos c] at h
    cases h
    exact hf
  · rw [if_neg c] at h
    refine jem (p := (99 : Int32) < v1) (fun c => ?_) (fun c => ?_)
    · rw [if_pos c] at h
      cases h
      exact hf
    · rw [if_neg c] at h
      refine jem (p := ((m1 109 31) + v1) ≤ (999 : Int32)) (fun c => ?_) (fun c => ?_)
      · rw [if_pos c] at h
        refine fr_lp_M_days_31 v1 _ ?_ _ (0 : Int32) m1 _ hf h
        intro m4 r hf h
        cases h
        exact hf
      · rw [if_neg c] at h
        cases h
        exact hf

def W_M_read : List (Nat × Nat) := [(109, 1), (109, 31), (109, 34), (109, 45), (109, 58), (118, 0), (119, 0), (121, 0), (122, 0), (123, 0), (124, 0), (125, 0), (126, 0), (127, 0), (128, 0), (129, 0), (130, 0), (131, 0), (132, 0), (133, 0), (134, 0), (135, 0), (136, 0), (137, 0), (138, 0), (140, 0)]
theorem fr_M_read {v1 : Int32} {v2 : Int32} {m : jMem} {r : (Int32 × jMem)} (h : f_M_read v1 v2 m = some r) : jfr W_M_read m r.2 := by
  unfold f_M_read at h
  have hf : jfr W_M_read m m := jfr_rf
  obtain ⟨m1, hm1, h⟩ := jpu_some h
  replace hf := jfr_tr hf (jfr_up hm1 rfl)
  obtain ⟨x2, m3, zm3, h⟩ := jbd_some h
  replace hf := jfr_tr hf (jfr_sub (W := W_M_isWriter) rfl (fr_M_isWriter zm3))
  refine jem (p := x2 = 0) (fun c => ?_) (fun c => ?_)
  · rw [if_pos c] at h
    cases h
    exact hf
  · rw [if_neg c] at h
    obtain ⟨x4, m5, zm5, h⟩ := jbd_some h
    replace hf := jfr_tr hf (jfr_sub (W := W_M_deskPlace) rfl (fr_M_deskPlace zm5))
    refine jem_ne (p := x4 = (-1 : Int32)) (fun c => ?_) (fun c => ?_)
    · rw [if_neg c] at h
      obtain ⟨u6, m7, zm7, h⟩ := jbd_some h
      replace hf := jfr_tr hf (jfr_sub (W := W_M_readsNow) rfl (fr_M_readsNow zm7))
      obtain ⟨x8, ex8, g, h⟩ := jld_some h
      cases h
      exact hf
    · rw [if_pos c] at h
      cases h
      exact hf

def W_M_look : List (Nat × Nat) := [(109, 1)]
theorem fr_M_look {v1 : Int32} {v2 : Int32} {m : jMem} {r : (Int32 × jMem)} (h : f_M_look v1 v2 m = some r) : jfr W_M_look m r.2 := by
  unfold f_M_look at h
  have hf : jfr W_M_look m m := jfr_rf
  obtain ⟨x1, m2, zm2, h⟩ := jbd_some h
  replace hf := jfr_tr hf (jfr_sub (W := W_M_isLetter) rfl (fr_M_isLetter zm2))
  refine jem_ne (p := x1 = 0) (fun c => ?_) (fun c => ?_)
  · rw [if_neg c] at h
    refine jem (p := v2 < 0) (fun c => ?_) (fun c => ?_)
    · rw [if_pos c] at h
      obtain ⟨m3, hm3, h⟩ := jpu_some h
      replace hf := jfr_tr hf (jfr_up hm3 rfl)
      refine jem (p := (m3 109 0) = 0) (fun c => ?_) (fun c => ?_)
      · rw [if_pos c] at h
        by_cases c0 : v2 = (0 : Int32)
        · rw [if_pos c0] at h
          obtain ⟨x9, ex9, g, h⟩ := jld_some h
          cases h
          exact hf
        · rw [if_neg c0] at h
          by_cases c1 : v2 = (1 : Int32)
          · rw [if_pos c1] at h
            obtain ⟨x8, ex8, g, h⟩ := jld_some h
            cases h
            exact hf
          · rw [if_neg c1] at h
            by_cases c2 : v2 = (2 : Int32)
            · rw [if_pos c2] at h
              obtain ⟨x7, ex7, g, h⟩ := jld_some h
              cases h
              exact hf
            · rw [if_neg c2] at h
              by_cases c3 : v2 = (3 : Int32)
              · rw [if_pos c3] at h
                obtain ⟨x6, ex6, g, h⟩ := jld_some h
                cases h
                exact hf
              · rw [if_neg c3] at h
                by_cases c4 : v2 = (4 : Int32)
                · rw [if_pos c4] at h
                  obtain ⟨x5, ex5, g, h⟩ := jld_some h
                  cases h
                  exact hf
                · rw [if_neg c4] at h
                  obtain ⟨x4, ex4, g, h⟩ := jld_some h
                  cases h
                  exact hf
      · rw [if_neg c] at h
        cases h
        exact hf
    · rw [if_neg c] at h
      refine jem (p := v2 ≤ (5 : Int32)) (fun c => ?_) (fun c => ?_)
      · rw [if_pos c] at h
        obtain ⟨m10, hm10, h⟩ := jpu_some h
        replace hf := jfr_tr hf (jfr_up hm10 rfl)
        refine jem (p := (m10 109 0) = 0) (fun c => ?_) (fun c => ?_)
        · rw [if_pos c] at h
          by_cases c0 : v2 = (0 : Int32)
          · rw [if_pos c0] at h
            obtain ⟨x16, ex16, g, h⟩ := jld_some h
            cases h
            exact hf
          · rw [if_neg c0] at h
            by_cases c1 : v2 = (1 : Int32)
            · rw [if_pos c1] at h
              obtain ⟨x15, ex15, g, h⟩ := jld_some h
              cases h
              exact hf
            · rw [if_neg c1] at h
              by_cases c2 : v2 = (2 : Int32)
              · rw [if_pos c2] at h
                obtain ⟨x14, ex14, g, h⟩ := jld_some h
                cases h
                exact hf
              · rw [if_neg c2] at h
                by_cases c3 : v2 = (3 : Int32)
                · rw [if_pos c3] at h
                  obtain ⟨x13, ex13, g, h⟩ := jld_some h
                  cases h
                  exact hf
                · rw [if_neg c3] at h
                  by_cases c4 : v2 = (4 : Int32)
                  · rw [if_pos c4] at h
                    obtain ⟨x12, ex12, g, h⟩ := jld_some h
                    cases h
                    exact hf
                  · rw [if_neg c4] at h
                    obtain ⟨x11, ex11, g, h⟩ := jld_some h
                    cases h
                    exact hf
        · rw [if_neg c] at h
          cases h
          exact hf
      · rw [if_neg c] at h
        obtain ⟨m17, hm17, h⟩ := jpu_some h
        replace hf := jfr_tr hf (jfr_up hm17 rfl)
        refine jem (p := (m17 109 0) = 0) (fun c => ?_) (fun c => ?_)
        · rw [if_pos c] at h
          by_cases c0 : v2 = (0 : Int32)
          · rw [if_pos c0] at h
            obtain ⟨x23, ex23, g, h⟩ := jld_some h
            cases h
            exact hf
          · rw [if_neg c0] at h
            by_cases c1 : v2 = (1 : Int32)
            · rw [if_pos c1] at h
              obtain ⟨x22, ex22, g, h⟩ := jld_some h
              cases h
              exact hf
            · rw [if_neg c1] at h
              by_cases c2 : v2 = (2 : Int32)
              · rw [if_pos c2] at h
                obtain ⟨x21, ex21, g, h⟩ := jld_some h
                cases h
                exact hf
              · rw [if_neg c2] at h
                by_cases c3 : v2 = (3 : Int32)
                · rw [if_pos c3] at h
                  obtain ⟨x20, ex20, g, h⟩ := jld_some h
                  cases h
                  exact hf
                · rw [if_neg c3] at h
                  by_cases c4 : v2 = (4 : Int32)
                  · rw [if_pos c4] at h
                    obtain ⟨x19, ex19, g, h⟩ := jld_some h
                    cases h
                    exact hf
                  · rw [if_neg c4] at h
                    obtain ⟨x18, ex18, g, h⟩ := jld_some h
                    cases h
                    exact hf
        · rw [if_neg c] at h
          cases h
          exact hf
  · rw [if_pos c] at h
    obtain ⟨m24, hm24, h⟩ := jpu_some h
    replace hf := jfr_tr hf (jfr_up hm24 rfl)
    refine jem (p := (m24 109 0) = 0) (fun c => ?_) (fun c => ?_)
    · rw [if_pos c] at h
      by_cases c0 : v2 = (0 : Int32)
      · rw [if_pos c0] at h
        obtain ⟨x30, ex30, g, h⟩ := jld_some h
        cases h
        exact hf
      · rw [if_neg c0] at h
        by_cases c1 : v2 = (1 : Int32)
        · rw [if_pos c1] at h
          obtain ⟨x29, ex29, g, h⟩ := jld_some h
          cases h
          exact hf
        · rw [if_neg c1] at h
          by_cases c2 : v2 = (2 : Int32)
          · rw [if_pos c2] at h
            obtain ⟨x28, ex28, g, h⟩ := jld_some h
            cases h
            exact hf
          · rw [if_neg c2] at h
            by_cases c3 : v2 = (3 : Int32)
            · rw [if_pos c3] at h
              obtain ⟨x27, ex27, g, h⟩ := jld_some h
              cases h
              exact hf
            · rw [if_neg c3] at h
              by_cases c4 : v2 = (4 : Int32)
              · rw [if_pos c4] at h
                obtain ⟨x26, ex26, g, h⟩ := jld_some h
                cases h
                exact hf
              · rw [if_neg c4] at h
                obtain ⟨x25, ex25, g, h⟩ := jld_some h
                cases h
                exact hf
    · rw [if_neg c] at h
      cases h
      exact hf

def W_M_copy : List (Nat × Nat) := [(109, 1)]
theorem fr_M_copy {v1 : Int32} {v2 : Int32} {m : jMem} {r : (Int32 × jMem)} (h : f_M_copy v1 v2 m = some r) : jfr W_M_copy m r.2 := by
  unfold f_M_copy at h
  have hf : jfr W_M_copy m m := jfr_rf
  obtain ⟨m1, hm1, h⟩ := jpu_some h
  replace hf := jfr_tr hf (jfr_up hm1 rfl)
  refine jem (p := v1 < 0) (fun c => ?_) (fun c => ?_)
  · rw [if_pos c] at h
    cases h
    exact hf
  · rw [if_neg c] at h
    refine jem (p := (m1 109 44) ≤ v1) (fun c => ?_) (fun c => ?_)
    · rw [if_pos c] at h
      cases h
      exact hf
    · rw [if_neg c] at h
      refine jem (p := v2 < 0) (fun c => ?_) (fun c => ?_)
      · rw [if_pos c] at h
        cases h
        exact hf
      · rw [if_neg c] at h
        refine jem (p := v2 ≤ (3 : Int32)) (fun c => ?_) (fun c => ?_)
        · rw [if_pos c] at h
          refine jem_ne (p := v2 = 0) (fun c => ?_) (fun c => ?_)
          · rw [if_neg c] at h
            refine jem_ne (p := v2 = (1 : Int32)) (fun c => ?_) (fun c => ?_)
            · rw [if_neg c] at h
              refine jem_ne (p := v2 = (2 : Int32)) (fun c => ?_) (fun c => ?_)
              · rw [if_neg c] at h
                obtain ⟨x2, ex2, g, h⟩ := jld_some h
                cases h
                exact hf
              · rw [if_pos c] at h
                obtain ⟨x3, ex3, g, h⟩ := jld_some h
                cases h
                exact hf
            · rw [if_pos c] at h
              obtain ⟨x4, ex4, g, h⟩ := jld_some h
              cases h
              exact hf
          · rw [if_pos c] at h
            obtain ⟨x5, ex5, g, h⟩ := jld_some h
            cases h
            exact hf
        · rw [if_neg c] at h
          cases h
          exact hf

def W_M_desk : List (Nat × Nat) := [(109, 1)]
theorem fr_M_desk {v1 : Int32} {v2 : Int32} {m : jMem} {r : (Int32 × jMem)} (h : f_M_desk v1 v2 m = some r) : jfr W_M_desk m r.2 := by
  unfold f_M_desk at h
  have hf : jfr W_M_desk m m := jfr_rf
  obtain ⟨m1, hm1, h⟩ := jpu_some h
  replace hf := jfr_tr hf (jfr_up hm1 rfl)
  obtain ⟨x2, m3, zm3, h⟩ := jbd_some h
  replace hf := jfr_tr hf (jfr_sub (W := W_M_isWriter) rfl (fr_M_isWriter zm3))
  refine jem (p := x2 = 0) (fun c => ?_) (fun c => ?_)
  · rw [if_pos c] at h
    cases h
    exact hf
  · rw [if_neg c] at h
    refine jem (p := v2 < 0) (fun c => ?_) (fun c => ?_)
    · rw [if_pos c] at h
      cases h
      exact hf
    · rw [if_neg c] at h
      obtain ⟨x4, ex4, g, h⟩ := jld_some h
      refine jem (p := v2 < x4) (fun c => ?_) (fun c => ?_)
      · rw [if_pos c] at h
        obtain ⟨x5, ex5, g, h⟩ := jld_some h
        cases h
        exact hf
      · rw [if_neg c] at h
        cases h
        exact hf

def W_M_before : List (Nat × Nat) := [(109, 1)]
theorem fr_M_before {v1 : Int32} {v2 : Int32} {m : jMem} {r : (Int32 × jMem)} (h : f_M_before v1 v2 m = some r) : jfr W_M_before m r.2 := by
  unfold f_M_before at h
  have hf : jfr W_M_before m m := jfr_rf
  obtain ⟨m1, hm1, h⟩ := jpu_some h
  replace hf := jfr_tr hf (jfr_up hm1 rfl)
  obtain ⟨x2, m3, zm3, h⟩ := jbd_some h
  replace hf := jfr_tr hf (jfr_sub (W := W_M_isLetter) rfl (fr_M_isLetter zm3))
  refine jem (p := x2 = 0) (fun c => ?_) (fun c => ?_)
  · rw [if_pos c] at h
    cases h
    exact hf
  · rw [if_neg c] at h
    obtain ⟨x4, m5, zm5, h⟩ := jbd_some h
    replace hf := jfr_tr hf (jfr_sub (W := W_M_isLetter) rfl (fr_M_isLetter zm5))
    refine jem (p := x4 = 0) (fun c => ?_) (fun c => ?_)
    · rw [if_pos c] at h
      cases h
      exact hf
    · rw [if_neg c] at h
      refine jem_ne (p := v1 = v2) (fun c => ?_) (fun c => ?_)
      · rw [if_neg c] at h
        obtain ⟨x6, m7, zm7, h⟩ := jbd_some h
        replace hf := jfr_tr hf (jfr_sub (W := W_M_isBefore) rfl (fr_M_isBefore zm7))
        refine jem (p := x6 = 0) (fun c => ?_) (fun c => ?_)
        · rw [if_pos c] at h
          obtain ⟨x8, m9, zm9, h⟩ := jbd_some h
          replace hf := jfr_tr hf (jfr_sub (W := W_M_isBefore) rfl (fr_M_isBefore zm9))
          refine jem (p := x8 = 0) (fun c => ?_) (fun c => ?_)
          · rw [if_pos c] at h
            cases h
            exact hf
          · rw [if_neg c] at h
            cases h
            exact hf
        · rw [if_neg c] at h
          cases h
          exact hf
      · rw [if_pos c] at h
        cases h
        exact hf

def W_M_path : List (Nat × Nat) := [(109, 1), (139, 0)]
theorem fr_lp_M_path_74 {m0 : jMem} (v1 : Int32) (v2 : Int32) (v3 : Int32) (v4 : Int32) (k128 : jMem → Option (Int32 × jMem))
    (hk128 : ∀ (m : jMem) (r : (Int32 × jMem)), jfr W_M_path m0 m → k128 m = some r → jfr W_M_path m0 r.2) : ∀ (n : Nat) (v5 : Int32) (m : jMem) (r : (Int32 × jMem)), jfr W_M_path m0 m → lp_M_path_74 v1 v2 v3 v4 k128 n v5 m = some r → jfr W_M_path m0 r.2 := by
  intro n
  induction n with
  | zero => intro v5 m r hf h; unfold lp_M_path_74 at h; cases h
  | succ n ih =>
    intro v5 m r hf h
    unfold lp_M_path_74 at h
    refine jem (p := v2 < v5) (fun c => ?_) (fun c => ?_)
    · rw [if_pos c] at h
      exact hk128  m _ hf h
    · rw [if_neg c] at h
      obtain ⟨x10, ex10, g, h⟩ := jld_some h
      refine jem_ne (p := ((x10 >>> (v4 &&& 31)) &&& (1 : Int32)) = (1 : Int32)) (fun c => ?_) (fun c => ?_)
      · rw [if_neg c] at h
        exact ih (v5 + (1 : Int32)) m _ hf h
      · rw [if_pos c] at h
        obtain ⟨x11, ex11, g, h⟩ := jld_some h
        obtain ⟨x12, ex12, g, h⟩ := jld_some h
        obtain ⟨m13, hm13, g, h⟩ := jst_some h
        replace hf := jfr_tr hf (jfr_ua hm13 rfl)
        exact ih (v5 + (1 : Int32)) m13 _ hf h
theorem fr_lp_M_path_53 {m0 : jMem} (v1 : Int32) (v2 : Int32) (v3 : Int32) (k134 : jMem → Option (Int32 × jMem))
    (hk134 : ∀ (m : jMem) (r : (Int32 × jMem)), jfr W_M_path m0 m → k134 m = some r → jfr W_M_path m0 r.2) : ∀ (n : Nat) (v4 : Int32) (m : jMem) (r : (Int32 × jMem)), jfr W_M_path m0 m → lp_M_path_53 v1 v2 v3 k134 n v4 m = some r → jfr W_M_path m0 r.2 := by
  intro n
  induction n with
  | zero => intro v4 m r hf h; unfold lp_M_path_53 at h; cases h
  | succ n ih =>
    intro v4 m r hf h
    unfold lp_M_path_53 at h
    refine jem (p := v4 < v1) (fun c => ?_) (fun c => ?_)
    · rw [if_pos c] at h
      exact hk134  m _ hf h
    · rw [if_neg c] at h
      obtain ⟨m9, hm9, g, h⟩ := jst_some h
      replace hf := jfr_tr hf (jfr_ua hm9 rfl)
      refine fr_lp_M_path_74 v1 v2 v3 v4 _ ?_ _ (v4 + (1 : Int32)) m9 _ hf h
      intro m14 r hf h
      exact ih (v4 + (-1 : Int32)) m14 _ hf h
theorem fr_lp_M_path_160 {m0 : jMem} (v2 : Int32) (v3 : Int32) (v4 : Int32) (v5 : Int32) (k200 : Int32 → jMem → Option (Int32 × jMem))
    (hk200 : ∀ (v6 : Int32) (m : jMem) (r : (Int32 × jMem)), jfr W_M_path m0 m → k200 v6 m = some r → jfr W_M_path m0 r.2) : ∀ (n : Nat) (v6 : Int32) (m : jMem) (r : (Int32 × jMem)), jfr W_M_path m0 m → lp_M_path_160 v2 v3 v4 v5 k200 n v6 m = some r → jfr W_M_path m0 r.2 := by
  intro n
  induction n with
  | zero => intro v6 m r hf h; unfold lp_M_path_160 at h; cases h
  | succ n ih =>
    intro v6 m r hf h
    unfold lp_M_path_160 at h
    obtain ⟨x16, ex16, g, h⟩ := jld_some h
    refine jem (p := ((x16 >>> (v4 &&& 31)) &&& (1 : Int32)) = 0) (fun c => ?_) (fun c => ?_)
    · rw [if_pos c] at h
      exact ih (v6 + (1 : Int32)) m _ hf h
    · rw [if_neg c] at h
      obtain ⟨x17, ex17, g, h⟩ := jld_some h
      obtain ⟨x18, ex18, g, h⟩ := jld_some h
      refine jem (p := x17 = (x18 - (1 : Int32))) (fun c => ?_) (fun c => ?_)
      · rw [if_pos c] at h
        exact hk200 v6 m _ hf h
      · rw [if_neg c] at h
        exact ih (v6 + (1 : Int32)) m _ hf h
theorem fr_lp_M_path_140 {m0 : jMem} (v2 : Int32) (v3 : Int32) (k152 : jMem → Option (Int32 × jMem)) (k210 : Int32 → jMem → Option (Int32 × jMem))
    (hk152 : ∀ (m : jMem) (r : (Int32 × jMem)), jfr W_M_path m0 m → k152 m = some r → jfr W_M_path m0 r.2)
    (hk210 : ∀ (v4 : Int32) (m : jMem) (r : (Int32 × jMem)), jfr W_M_path m0 m → k210 v4 m = some r → jfr W_M_path m0 r.2) : ∀ (n : Nat) (v4 : Int32) (v5 : Int32) (m : jMem) (r : (Int32 × jMem)), jfr W_M_path m0 m → lp_M_path_140 v2 v3 k152 k210 n v4 v5 m = some r → jfr W_M_path m0 r.2 := by
  intro n
  induction n with
  | zero => intro v4 v5 m r hf h; unfold lp_M_path_140 at h; cases h
  | succ n ih =>
    intro v4 v5 m r hf h
    unfold lp_M_path_140 at h
    refine jem (p := v3 ≤ v5) (fun c => ?_) (fun c => ?_)
    · rw [if_pos c] at h
      exact hk210 v4 m _ hf h
    · rw [if_neg c] at h
      refine jem_ne (p := v4 = v2) (fun c => ?_) (fun c => ?_)
      · rw [if_neg c] at h
        refine fr_lp_M_path_160 v2 v3 v4 v5 _ ?_ _ (v4 + (1 : Int32)) m _ hf h
        intro w20 m19 r hf h
        exact ih w20 (v5 + (1 : Int32)) m19 _ hf h
      · rw [if_pos c] at h
        exact hk152  m _ hf h
theorem fr_M_path {v1 : Int32} {v2 : Int32} {v3 : Int32} {m : jMem} {r : (Int32 × jMem)} (h : f_M_path v1 v2 v3 m = some r) : jfr W_M_path m r.2 := by
  unfold f_M_path at h
  have hf : jfr W_M_path m m := jfr_rf
  obtain ⟨m1, hm1, h⟩ := jpu_some h
  replace hf := jfr_tr hf (jfr_up hm1 rfl)
  obtain ⟨x2, m3, zm3, h⟩ := jbd_some h
  replace hf := jfr_tr hf (jfr_sub (W := W_M_isLetter) rfl (fr_M_isLetter zm3))
  refine jem (p := x2 = 0) (fun c => ?_) (fun c => ?_)
  · rw [if_pos c] at h
    cases h
    exact hf
  · rw [if_neg c] at h
    obtain ⟨x4, m5, zm5, h⟩ := jbd_some h
    replace hf := jfr_tr hf (jfr_sub (W := W_M_isLetter) rfl (fr_M_isLetter zm5))
    refine jem (p := x4 = 0) (fun c => ?_) (fun c => ?_)
    · rw [if_pos c] at h
      cases h
      exact hf
    · rw [if_neg c] at h
      refine jem (p := v1 = v2) (fun c => ?_) (fun c => ?_)
      · rw [if_pos c] at h
        cases h
        exact hf
      · rw [if_neg c] at h
        obtain ⟨x6, m7, zm7, h⟩ := jbd_some h
        replace hf := jfr_tr hf (jfr_sub (W := W_M_isBefore) rfl (fr_M_isBefore zm7))
        refine jem (p := x6 = 0) (fun c => ?_) (fun c => ?_)
        · rw [if_pos c] at h
          cases h
          exact hf
        · rw [if_neg c] at h
          refine jem (p := 0 ≤ v3) (fun c => ?_) (fun c => ?_)
          · rw [if_pos c] at h
            obtain ⟨m8, hm8, g, h⟩ := jst_some h
            replace hf := jfr_tr hf (jfr_ua hm8 rfl)
            refine fr_lp_M_path_53 v1 v2 v3 _ ?_ _ (v2 - (1 : Int32)) m8 _ hf h
            intro m15 r hf h
            refine fr_lp_M_path_140 v2 v3 _ _ ?_ ?_ _ v1 (0 : Int32) m15 _ hf h
            · intro m21 r hf h
              cases h
              exact hf
            · intro w23 m22 r hf h
              cases h
              exact hf
          · rw [if_neg c] at h
            cases h
            exact hf

def W_M_sum : List (Nat × Nat) := [(109, 1), (140, 0)]
theorem fr_M_sum {v1 : Int32} {m : jMem} {r : (Int32 × jMem)} (h : f_M_sum v1 m = some r) : jfr W_M_sum m r.2 := by
  unfold f_M_sum at h
  have hf : jfr W_M_sum m m := jfr_rf
  obtain ⟨m1, hm1, h⟩ := jpu_some h
  replace hf := jfr_tr hf (jfr_up hm1 rfl)
  obtain ⟨x2, m3, zm3, h⟩ := jbd_some h
  replace hf := jfr_tr hf (jfr_sub (W := W_M_isLetter) rfl (fr_M_isLetter zm3))
  refine jem (p := x2 = 0) (fun c => ?_) (fun c => ?_)
  · rw [if_pos c] at h
    cases h
    exact hf
  · rw [if_neg c] at h
    obtain ⟨x4, m5, zm5, h⟩ := jbd_some h
    replace hf := jfr_tr hf (jfr_sub (W := W_M_sumOf) rfl (fr_M_sumOf zm5))
    cases h
    exact hf

def W_M_numberOf : List (Nat × Nat) := []
theorem fr_lp_M_numberOf_19 {m0 : jMem} (v1 : Int32) (v2 : Int32) (k60 : Int32 → jMem → Option (Int32 × jMem))
    (hk60 : ∀ (v3 : Int32) (m : jMem) (r : (Int32 × jMem)), jfr W_M_numberOf m0 m → k60 v3 m = some r → jfr W_M_numberOf m0 r.2) : ∀ (n : Nat) (v3 : Int32) (v4 : Int32) (m : jMem) (r : (Int32 × jMem)), jfr W_M_numberOf m0 m → lp_M_numberOf_19 v1 v2 k60 n v3 v4 m = some r → jfr W_M_numberOf m0 r.2 := by
  intro n
  induction n with
  | zero => intro v3 v4 m r hf h; unfold lp_M_numberOf_19 at h; cases h
  | succ n ih =>
    intro v3 v4 m r hf h
    unfold lp_M_numberOf_19 at h
    refine jem (p := v1 ≤ v4) (fun c => ?_) (fun c => ?_)
    · rw [if_pos c] at h
      exact hk60 v3 m _ hf h
    · rw [if_neg c] at h
      obtain ⟨x2, m3, zm3, h⟩ := jbd_some h
      replace hf := jfr_tr hf (jfr_sub (W := W_M_isBefore) rfl (fr_M_isBefore zm3))
      refine jem (p := x2 = 0) (fun c => ?_) (fun c => ?_)
      · rw [if_pos c] at h
        exact ih (v3 + (0 : Int32)) (v4 + (1 : Int32)) m3 _ hf h
      · rw [if_neg c] at h
        obtain ⟨x4, ex4, g, h⟩ := jld_some h
        refine jem_ne (p := x4 = v2) (fun c => ?_) (fun c => ?_)
        · rw [if_neg c] at h
          exact ih (v3 + (0 : Int32)) (v4 + (1 : Int32)) m3 _ hf h
        · rw [if_pos c] at h
          exact ih (v3 + (1 : Int32)) (v4 + (1 : Int32)) m3 _ hf h
theorem fr_M_numberOf {v1 : Int32} {v2 : Int32} {m : jMem} {r : (Int32 × jMem)} (h : f_M_numberOf v1 v2 m = some r) : jfr W_M_numberOf m r.2 := by
  unfold f_M_numberOf at h
  have hf : jfr W_M_numberOf m m := jfr_rf
  obtain ⟨x1, ex1, g, h⟩ := jld_some h
  refine jem_ne (p := x1 = v2) (fun c => ?_) (fun c => ?_)
  · rw [if_neg c] at h
    refine fr_lp_M_numberOf_19 v1 v2 _ ?_ _ (0 : Int32) (0 : Int32) m _ hf h
    intro w6 m5 r hf h
    cases h
    exact hf
  · rw [if_pos c] at h
    refine fr_lp_M_numberOf_19 v1 v2 _ ?_ _ (1 : Int32) (0 : Int32) m _ hf h
    intro w8 m7 r hf h
    cases h
    exact hf

def W_M_number : List (Nat × Nat) := [(109, 1)]
theorem fr_M_number {v1 : Int32} {v2 : Int32} {m : jMem} {r : (Int32 × jMem)} (h : f_M_number v1 v2 m = some r) : jfr W_M_number m r.2 := by
  unfold f_M_number at h
  have hf : jfr W_M_number m m := jfr_rf
  obtain ⟨m1, hm1, h⟩ := jpu_some h
  replace hf := jfr_tr hf (jfr_up hm1 rfl)
  obtain ⟨x2, m3, zm3, h⟩ := jbd_some h
  replace hf := jfr_tr hf (jfr_sub (W := W_M_isLetter) rfl (fr_M_isLetter zm3))
  refine jem (p := x2 = 0) (fun c => ?_) (fun c => ?_)
  · rw [if_pos c] at h
    cases h
    exact hf
  · rw [if_neg c] at h
    obtain ⟨x4, m5, zm5, h⟩ := jbd_some h
    replace hf := jfr_tr hf (jfr_sub (W := W_M_isWriter) rfl (fr_M_isWriter zm5))
    refine jem (p := x4 = 0) (fun c => ?_) (fun c => ?_)
    · rw [if_pos c] at h
      cases h
      exact hf
    · rw [if_neg c] at h
      obtain ⟨x6, m7, zm7, h⟩ := jbd_some h
      replace hf := jfr_tr hf (jfr_sub (W := W_M_numberOf) rfl (fr_M_numberOf zm7))
      cases h
      exact hf

def W_M_pair : List (Nat × Nat) := [(109, 1)]
theorem fr_lp_M_pair_35 {m0 : jMem} (v1 : Int32) (v2 : Int32) (v3 : Int32) (k88 : Int32 → jMem → Option (Int32 × jMem))
    (hk88 : ∀ (v4 : Int32) (m : jMem) (r : (Int32 × jMem)), jfr W_M_pair m0 m → k88 v4 m = some r → jfr W_M_pair m0 r.2) : ∀ (n : Nat) (v4 : Int32) (v5 : Int32) (m : jMem) (r : (Int32 × jMem)), jfr W_M_pair m0 m → lp_M_pair_35 v1 v2 v3 k88 n v4 v5 m = some r → jfr W_M_pair m0 r.2 := by
  intro n
  induction n with
  | zero => intro v4 v5 m r hf h; unfold lp_M_pair_35 at h; cases h
  | succ n ih =>
    intro v4 v5 m r hf h
    unfold lp_M_pair_35 at h
    refine jem (p := v1 < v5) (fun c => ?_) (fun c => ?_)
    · rw [if_pos c] at h
      exact hk88 v4 m _ hf h
    · rw [if_neg c] at h
      obtain ⟨x8, ex8, g, h⟩ := jld_some h
      refine jem_ne (p := x8 = v3) (fun c => ?_) (fun c => ?_)
      · rw [if_neg c] at h
        exact ih v4 (v5 + (1 : Int32)) m _ hf h
      · rw [if_pos c] at h
        refine jem (p := v5 = v1) (fun c => ?_) (fun c => ?_)
        · rw [if_pos c] at h
          obtain ⟨x9, m10, zm10, h⟩ := jbd_some h
          replace hf := jfr_tr hf (jfr_sub (W := W_M_numberOf) rfl (fr_M_numberOf zm10))
          exact ih (jmax v4 x9) (v5 + (1 : Int32)) m10 _ hf h
        · rw [if_neg c] at h
          obtain ⟨x11, m12, zm12, h⟩ := jbd_some h
          replace hf := jfr_tr hf (jfr_sub (W := W_M_isBefore) rfl (fr_M_isBefore zm12))
          refine jem (p := x11 = 0) (fun c => ?_) (fun c => ?_)
          · rw [if_pos c] at h
            exact ih v4 (v5 + (1 : Int32)) m12 _ hf h
          · rw [if_neg c] at h
            obtain ⟨x13, m14, zm14, h⟩ := jbd_some h
            replace hf := jfr_tr hf (jfr_sub (W := W_M_numberOf) rfl (fr_M_numberOf zm14))
            exact ih (jmax v4 x13) (v5 + (1 : Int32)) m14 _ hf h
theorem fr_M_pair {v1 : Int32} {v2 : Int32} {v3 : Int32} {m : jMem} {r : (Int32 × jMem)} (h : f_M_pair v1 v2 v3 m = some r) : jfr W_M_pair m r.2 := by
  unfold f_M_pair at h
  have hf : jfr W_M_pair m m := jfr_rf
  obtain ⟨m1, hm1, h⟩ := jpu_some h
  replace hf := jfr_tr hf (jfr_up hm1 rfl)
  obtain ⟨x2, m3, zm3, h⟩ := jbd_some h
  replace hf := jfr_tr hf (jfr_sub (W := W_M_isLetter) rfl (fr_M_isLetter zm3))
  refine jem (p := x2 = 0) (fun c => ?_) (fun c => ?_)
  · rw [if_pos c] at h
    cases h
    exact hf
  · rw [if_neg c] at h
    obtain ⟨x4, m5, zm5, h⟩ := jbd_some h
    replace hf := jfr_tr hf (jfr_sub (W := W_M_isWriter) rfl (fr_M_isWriter zm5))
    refine jem (p := x4 = 0) (fun c => ?_) (fun c => ?_)
    · rw [if_pos c] at h
      cases h
      exact hf
    · rw [if_neg c] at h
      obtain ⟨x6, m7, zm7, h⟩ := jbd_some h
      replace hf := jfr_tr hf (jfr_sub (W := W_M_isWriter) rfl (fr_M_isWriter zm7))
      refine jem_ne (p := x6 = 0) (fun c => ?_) (fun c => ?_)
      · rw [if_neg c] at h
        refine fr_lp_M_pair_35 v1 v2 v3 _ ?_ _ (0 : Int32) (0 : Int32) m7 _ hf h
        intro w16 m15 r hf h
        cases h
        exact hf
      · rw [if_pos c] at h
        cases h
        exact hf

def W_M_listOf : List (Nat × Nat) := []
theorem fr_lp_M_listOf_9 {m0 : jMem} (v1 : Int32) (k40 : Int32 → jMem → Option (Int32 × jMem))
    (hk40 : ∀ (v2 : Int32) (m : jMem) (r : (Int32 × jMem)), jfr W_M_listOf m0 m → k40 v2 m = some r → jfr W_M_listOf m0 r.2) : ∀ (n : Nat) (v2 : Int32) (v3 : Int32) (m : jMem) (r : (Int32 × jMem)), jfr W_M_listOf m0 m → lp_M_listOf_9 v1 k40 n v2 v3 m = some r → jfr W_M_listOf m0 r.2 := by
  intro n
  induction n with
  | zero => intro v2 v3 m r hf h; unfold lp_M_listOf_9 at h; cases h
  | succ n ih =>
    intro v2 v3 m r hf h
    unfold lp_M_listOf_9 at h
    refine jem (p := v1 ≤ v3) (fun c => ?_) (fun c => ?_)
    · rw [if_pos c] at h
      exact hk40 v2 m _ hf h
    · rw [if_neg c] at h
      obtain ⟨x2, m3, zm3, h⟩ := jbd_some h
      replace hf := jfr_tr hf (jfr_sub (W := W_M_isBefore) rfl (fr_M_isBefore zm3))
      refine jem (p := x2 = 0) (fun c => ?_) (fun c => ?_)
      · rw [if_pos c] at h
        exact ih v2 (v3 + (1 : Int32)) m3 _ hf h
      · rw [if_neg c] at h
        obtain ⟨x4, ex4, g, h⟩ := jld_some h
        exact ih (v2 &&& (x4 ^^^ (-1 : Int32))) (v3 + (1 : Int32)) m3 _ hf h
theorem fr_M_listOf {v1 : Int32} {m : jMem} {r : (Int32 × jMem)} (h : f_M_listOf v1 m = some r) : jfr W_M_listOf m r.2 := by
  unfold f_M_listOf at h
  have hf : jfr W_M_listOf m m := jfr_rf
  obtain ⟨x1, ex1, g, h⟩ := jld_some h
  refine fr_lp_M_listOf_9 v1 _ ?_ _ x1 (0 : Int32) m _ hf h
  intro w6 m5 r hf h
  cases h
  exact hf

def W_M_list : List (Nat × Nat) := [(109, 1)]
theorem fr_M_list {v1 : Int32} {m : jMem} {r : (Int32 × jMem)} (h : f_M_list v1 m = some r) : jfr W_M_list m r.2 := by
  unfold f_M_list at h
  have hf : jfr W_M_list m m := jfr_rf
  obtain ⟨m1, hm1, h⟩ := jpu_some h
  replace hf := jfr_tr hf (jfr_up hm1 rfl)
  obtain ⟨x2, m3, zm3, h⟩ := jbd_some h
  replace hf := jfr_tr hf (jfr_sub (W := W_M_isLetter) rfl (fr_M_isLetter zm3))
  refine jem (p := x2 = 0) (fun c => ?_) (fun c => ?_)
  · rw [if_pos c] at h
    cases h
    exact hf
  · rw [if_neg c] at h
    obtain ⟨x4, m5, zm5, h⟩ := jbd_some h
    replace hf := jfr_tr hf (jfr_sub (W := W_M_listOf) rfl (fr_M_listOf zm5))
    cases h
    exact hf

def W_M_through : List (Nat × Nat) := [(141, 0)]
theorem fr_M_through {v1 : Int32} {v2 : Int32} {v3 : Int32} {m : jMem} {r : (Unit × jMem)} (h : f_M_through v1 v2 v3 m = some r) : jfr W_M_through m r.2 := by
  unfold f_M_through at h
  have hf : jfr W_M_through m m := jfr_rf
  refine jem (p := v2 = (-1 : Int32)) (fun c => ?_) (fun c => ?_)
  · rw [if_pos c] at h
    cases h
    exact hf
  · rw [if_neg c] at h
    refine jem (p := v3 = 0) (fun c => ?_) (fun c => ?_)
    · rw [if_pos c] at h
      obtain ⟨x1, ex1, g, h⟩ := jld_some h
      obtain ⟨x2, ex2, g, h⟩ := jld_some h
      obtain ⟨m3, hm3, g, h⟩ := jst_some h
      replace hf := jfr_tr hf (jfr_ua hm3 rfl)
      cases h
      exact hf
    · rw [if_neg c] at h
      obtain ⟨x4, ex4, g, h⟩ := jld_some h
      refine jem (p := x4 = 0) (fun c => ?_) (fun c => ?_)
      · rw [if_pos c] at h
        obtain ⟨x5, ex5, g, h⟩ := jld_some h
        obtain ⟨x6, ex6, g, h⟩ := jld_some h
        obtain ⟨m7, hm7, g, h⟩ := jst_some h
        replace hf := jfr_tr hf (jfr_ua hm7 rfl)
        cases h
        exact hf
      · rw [if_neg c] at h
        cases h
        exact hf

def W_M_byAnswers : List (Nat × Nat) := [(141, 0)]
theorem fr_lp_M_byAnswers_2 {m0 : jMem} (v1 : Int32) (k63 : jMem → Option (Unit × jMem))
    (hk63 : ∀ (m : jMem) (r : (Unit × jMem)), jfr W_M_byAnswers m0 m → k63 m = some r → jfr W_M_byAnswers m0 r.2) : ∀ (n : Nat) (v2 : Int32) (m : jMem) (r : (Unit × jMem)), jfr W_M_byAnswers m0 m → lp_M_byAnswers_2 v1 k63 n v2 m = some r → jfr W_M_byAnswers m0 r.2 := by
  intro n
  induction n with
  | zero => intro v2 m r hf h; unfold lp_M_byAnswers_2 at h; cases h
  | succ n ih =>
    intro v2 m r hf h
    unfold lp_M_byAnswers_2 at h
    refine jem (p := (m 109 33) ≤ v2) (fun c => ?_) (fun c => ?_)
    · rw [if_pos c] at h
      exact hk63  m _ hf h
    · rw [if_neg c] at h
      obtain ⟨m1, hm1, g, h⟩ := jst_some h
      replace hf := jfr_tr hf (jfr_ua hm1 rfl)
      refine jem (p := v1 = 0) (fun c => ?_) (fun c => ?_)
      · rw [if_pos c] at h
        obtain ⟨x2, ex2, g, h⟩ := jld_some h
        obtain ⟨u3, m4, zm4, h⟩ := jbd_some h
        replace hf := jfr_tr hf (jfr_sub (W := W_M_through) rfl (fr_M_through zm4))
        obtain ⟨x5, ex5, g, h⟩ := jld_some h
        obtain ⟨u6, m7, zm7, h⟩ := jbd_some h
        replace hf := jfr_tr hf (jfr_sub (W := W_M_through) rfl (fr_M_through zm7))
        exact ih (v2 + (1 : Int32)) m7 _ hf h
      · rw [if_neg c] at h
        obtain ⟨x8, ex8, g, h⟩ := jld_some h
        refine jem (p := x8 = 0) (fun c => ?_) (fun c => ?_)
        · rw [if_pos c] at h
          obtain ⟨x9, ex9, g, h⟩ := jld_some h
          obtain ⟨u10, m11, zm11, h⟩ := jbd_some h
          replace hf := jfr_tr hf (jfr_sub (W := W_M_through) rfl (fr_M_through zm11))
          obtain ⟨x12, ex12, g, h⟩ := jld_some h
          obtain ⟨u13, m14, zm14, h⟩ := jbd_some h
          replace hf := jfr_tr hf (jfr_sub (W := W_M_through) rfl (fr_M_through zm14))
          exact ih (v2 + (1 : Int32)) m14 _ hf h
        · rw [if_neg c] at h
          exact ih (v2 + (1 : Int32)) m1 _ hf h
theorem fr_M_byAnswers {v1 : Int32} {m : jMem} {r : (Unit × jMem)} (h : f_M_byAnswers v1 m = some r) : jfr W_M_byAnswers m r.2 := by
  unfold f_M_byAnswers at h
  have hf : jfr W_M_byAnswers m m := jfr_rf
  refine fr_lp_M_byAnswers_2 v1 _ ?_ _ (0 : Int32) m _ hf h
  intro m15 r hf h
  cases h
  exact hf

def W_M_byLists : List (Nat × Nat) := [(141, 0)]
theorem fr_lp_M_byLists_25 {m0 : jMem} (v1 : Int32) (v2 : Int32) (k60 : jMem → Option (Unit × jMem))
    (hk60 : ∀ (m : jMem) (r : (Unit × jMem)), jfr W_M_byLists m0 m → k60 m = some r → jfr W_M_byLists m0 r.2) : ∀ (n : Nat) (v3 : Int32) (m : jMem) (r : (Unit × jMem)), jfr W_M_byLists m0 m → lp_M_byLists_25 v1 v2 k60 n v3 m = some r → jfr W_M_byLists m0 r.2 := by
  intro n
  induction n with
  | zero => intro v3 m r hf h; unfold lp_M_byLists_25 at h; cases h
  | succ n ih =>
    intro v3 m r hf h
    unfold lp_M_byLists_25 at h
    refine jem (p := v1 ≤ v3) (fun c => ?_) (fun c => ?_)
    · rw [if_pos c] at h
      exact hk60  m _ hf h
    · rw [if_neg c] at h
      refine jem_ne (p := ((v2 >>> (v3 &&& 31)) &&& (1 : Int32)) = (1 : Int32)) (fun c => ?_) (fun c => ?_)
      · rw [if_neg c] at h
        exact ih (v3 + (1 : Int32)) m _ hf h
      · rw [if_pos c] at h
        obtain ⟨x4, ex4, g, h⟩ := jld_some h
        obtain ⟨x5, ex5, g, h⟩ := jld_some h
        obtain ⟨m6, hm6, g, h⟩ := jst_some h
        replace hf := jfr_tr hf (jfr_ua hm6 rfl)
        exact ih (v3 + (1 : Int32)) m6 _ hf h
theorem fr_lp_M_byLists_2 {m0 : jMem} (k66 : jMem → Option (Unit × jMem))
    (hk66 : ∀ (m : jMem) (r : (Unit × jMem)), jfr W_M_byLists m0 m → k66 m = some r → jfr W_M_byLists m0 r.2) : ∀ (n : Nat) (v1 : Int32) (m : jMem) (r : (Unit × jMem)), jfr W_M_byLists m0 m → lp_M_byLists_2 k66 n v1 m = some r → jfr W_M_byLists m0 r.2 := by
  intro n
  induction n with
  | zero => intro v1 m r hf h; unfold lp_M_byLists_2 at h; cases h
  | succ n ih =>
    intro v1 m r hf h
    unfold lp_M_byLists_2 at h
    refine jem (p := (m 109 33) ≤ v1) (fun c => ?_) (fun c => ?_)
    · rw [if_pos c] at h
      exact hk66  m _ hf h
    · rw [if_neg c] at h
      obtain ⟨x1, m2, zm2, h⟩ := jbd_some h
      replace hf := jfr_tr hf (jfr_sub (W := W_M_listOf) rfl (fr_M_listOf zm2))
      obtain ⟨m3, hm3, g, h⟩ := jst_some h
      replace hf := jfr_tr hf (jfr_ua hm3 rfl)
      refine fr_lp_M_byLists_25 v1 x1 _ ?_ _ (0 : Int32) m3 _ hf h
      intro m7 r hf h
      exact ih (v1 + (1 : Int32)) m7 _ hf h
theorem fr_M_byLists {m : jMem} {r : (Unit × jMem)} (h : f_M_byLists m = some r) : jfr W_M_byLists m r.2 := by
  unfold f_M_byLists at h
  have hf : jfr W_M_byLists m m := jfr_rf
  refine fr_lp_M_byLists_2 _ ?_ _ (0 : Int32) m _ hf h
  intro m8 r hf h
  cases h
  exact hf

def W_M_bears : List (Nat × Nat) := [(141, 0)]
theorem fr_M_bears {v1 : Int32} {m : jMem} {r : (Unit × jMem)} (h : f_M_bears v1 m = some r) : jfr W_M_bears m r.2 := by
  unfold f_M_bears at h
  have hf : jfr W_M_bears m m := jfr_rf
  refine jem_ne (p := v1 = 0) (fun c => ?_) (fun c => ?_)
  · rw [if_neg c] at h
    refine jem_ne (p := v1 = (3 : Int32)) (fun c => ?_) (fun c => ?_)
    · rw [if_neg c] at h
      cases h
      exact hf
    · rw [if_pos c] at h
      obtain ⟨u1, m2, zm2, h⟩ := jbd_some h
      replace hf := jfr_tr hf (jfr_sub (W := W_M_byLists) rfl (fr_M_byLists zm2))
      cases h
      exact hf
  · rw [if_pos c] at h
    obtain ⟨u3, m4, zm4, h⟩ := jbd_some h
    replace hf := jfr_tr hf (jfr_sub (W := W_M_byAnswers) rfl (fr_M_byAnswers zm4))
    cases h
    exact hf

def W_M_isTold : List (Nat × Nat) := [(140, 0)]
theorem fr_M_isTold {v1 : Int32} {v2 : Int32} {v3 : Int32} {m : jMem} {r : (Int32 × jMem)} (h : f_M_isTold v1 v2 v3 m = some r) : jfr W_M_isTold m r.2 := by
  unfold f_M_isTold at h
  have hf : jfr W_M_isTold m m := jfr_rf
  refine jem_ne (p := v3 = (1 : Int32)) (fun c => ?_) (fun c => ?_)
  · rw [if_neg c] at h
    refine jem_ne (p := v3 = (2 : Int32)) (fun c => ?_) (fun c => ?_)
    · rw [if_neg c] at h
      obtain ⟨x1, ex1, g, h⟩ := jld_some h
      refine jem_ne (p := ((x1 >>> (v1 &&& 31)) &&& (1 : Int32)) = (1 : Int32)) (fun c => ?_) (fun c => ?_)
      · rw [if_neg c] at h
        cases h
        exact hf
      · rw [if_pos c] at h
        cases h
        exact hf
    · rw [if_pos c] at h
      obtain ⟨x2, ex2, g, h⟩ := jld_some h
      obtain ⟨x3, m4, zm4, h⟩ := jbd_some h
      replace hf := jfr_tr hf (jfr_sub (W := W_M_numberOf) rfl (fr_M_numberOf zm4))
      obtain ⟨x5, ex5, g, h⟩ := jld_some h
      obtain ⟨x6, m7, zm7, h⟩ := jbd_some h
      replace hf := jfr_tr hf (jfr_sub (W := W_M_numberOf) rfl (fr_M_numberOf zm7))
      refine jem (p := x3 < x6) (fun c => ?_) (fun c => ?_)
      · rw [if_pos c] at h
        cases h
        exact hf
      · rw [if_neg c] at h
        cases h
        exact hf
  · rw [if_pos c] at h
    obtain ⟨x8, m9, zm9, h⟩ := jbd_some h
    replace hf := jfr_tr hf (jfr_sub (W := W_M_sumOf) rfl (fr_M_sumOf zm9))
    obtain ⟨x10, m11, zm11, h⟩ := jbd_some h
    replace hf := jfr_tr hf (jfr_sub (W := W_M_sumOf) rfl (fr_M_sumOf zm11))
    refine jem (p := x10 ≤ x8) (fun c => ?_) (fun c => ?_)
    · rw [if_pos c] at h
      cases h
      exact hf
    · rw [if_neg c] at h
      cases h
      exact hf
