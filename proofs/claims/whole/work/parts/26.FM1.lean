def W_M_thrown : List (Nat × Nat) := []
theorem fr_M_thrown {m : jMem} {r : (Int32 × jMem)} (h : f_M_thrown m = some r) : jfr W_M_thrown m r.2 := by
  unfold f_M_thrown at h
  have hf : jfr W_M_thrown m m := jfr_rf
  cases h
  exact hf

def W_M_feed : List (Nat × Nat) := [(109, 1), (109, 3), (110, 0)]
theorem fr_lp_M_feed_20 {m0 : jMem} (v1 : Int32) (v2 : Int32) (v3 : Int32) (v4 : Int32) (v5 : Int32) (k110 : jMem → Option (Int32 × jMem))
    (hk110 : ∀ (m : jMem) (r : (Int32 × jMem)), jfr W_M_feed m0 m → k110 m = some r → jfr W_M_feed m0 r.2) : ∀ (n : Nat) (v6 : Int32) (m : jMem) (r : (Int32 × jMem)), jfr W_M_feed m0 m → lp_M_feed_20 v1 v2 v3 v4 v5 k110 n v6 m = some r → jfr W_M_feed m0 r.2 := by
  intro n
  induction n with
  | zero => intro v6 m r hf h; unfold lp_M_feed_20 at h; cases h
  | succ n ih =>
    intro v6 m r hf h
    unfold lp_M_feed_20 at h
    refine jem (p := (20 : Int32) ≤ v6) (fun c => ?_) (fun c => ?_)
    · rw [if_pos c] at h
      exact hk110  m _ hf h
    · rw [if_neg c] at h
      refine jem (p := (4 : Int32) ≤ v6) (fun c => ?_) (fun c => ?_)
      · rw [if_pos c] at h
        refine jem (p := (8 : Int32) ≤ v6) (fun c => ?_) (fun c => ?_)
        · rw [if_pos c] at h
          refine jem (p := (12 : Int32) ≤ v6) (fun c => ?_) (fun c => ?_)
          · rw [if_pos c] at h
            refine jem (p := (16 : Int32) ≤ v6) (fun c => ?_) (fun c => ?_)
            · rw [if_pos c] at h
              obtain ⟨m2, hm2, g, h⟩ := jst_some h
              replace hf := jfr_tr hf (jfr_ua hm2 rfl)
              exact ih (v6 + (1 : Int32)) m2 _ hf h
            · rw [if_neg c] at h
              obtain ⟨m3, hm3, g, h⟩ := jst_some h
              replace hf := jfr_tr hf (jfr_ua hm3 rfl)
              exact ih (v6 + (1 : Int32)) m3 _ hf h
          · rw [if_neg c] at h
            obtain ⟨m4, hm4, g, h⟩ := jst_some h
            replace hf := jfr_tr hf (jfr_ua hm4 rfl)
            exact ih (v6 + (1 : Int32)) m4 _ hf h
        · rw [if_neg c] at h
          obtain ⟨m5, hm5, g, h⟩ := jst_some h
          replace hf := jfr_tr hf (jfr_ua hm5 rfl)
          exact ih (v6 + (1 : Int32)) m5 _ hf h
      · rw [if_neg c] at h
        obtain ⟨m6, hm6, g, h⟩ := jst_some h
        replace hf := jfr_tr hf (jfr_ua hm6 rfl)
        exact ih (v6 + (1 : Int32)) m6 _ hf h
theorem fr_M_feed {v1 : Int32} {v2 : Int32} {v3 : Int32} {v4 : Int32} {v5 : Int32} {m : jMem} {r : (Int32 × jMem)} (h : f_M_feed v1 v2 v3 v4 v5 m = some r) : jfr W_M_feed m r.2 := by
  unfold f_M_feed at h
  have hf : jfr W_M_feed m m := jfr_rf
  obtain ⟨m1, hm1, h⟩ := jpu_some h
  replace hf := jfr_tr hf (jfr_up hm1 rfl)
  refine jem (p := (m1 109 2) ≤ (380 : Int32)) (fun c => ?_) (fun c => ?_)
  · rw [if_pos c] at h
    refine fr_lp_M_feed_20 v1 v2 v3 v4 v5 _ ?_ _ (0 : Int32) m1 _ hf h
    intro m7 r hf h
    obtain ⟨m8, hm8, h⟩ := jpu_some h
    replace hf := jfr_tr hf (jfr_up hm8 rfl)
    cases h
    exact hf
  · rw [if_neg c] at h
    cases h
    exact hf

def W_M_here : List (Nat × Nat) := []
theorem fr_M_here {m : jMem} {r : (Int32 × jMem)} (h : f_M_here m = some r) : jfr W_M_here m r.2 := by
  unfold f_M_here at h
  have hf : jfr W_M_here m m := jfr_rf
  refine jem (p := (m 109 16) ≤ (m 109 17)) (fun c => ?_) (fun c => ?_)
  · rw [if_pos c] at h
    cases h
    exact hf
  · rw [if_neg c] at h
    obtain ⟨x1, ex1, g, h⟩ := jld_some h
    cases h
    exact hf

def W_M_isSmall : List (Nat × Nat) := []
theorem fr_M_isSmall {v0 : Int32} {m : jMem} {r : (Int32 × jMem)} (h : f_M_isSmall v0 m = some r) : jfr W_M_isSmall m r.2 := by
  unfold f_M_isSmall at h
  have hf : jfr W_M_isSmall m m := jfr_rf
  refine jem (p := v0 < (97 : Int32)) (fun c => ?_) (fun c => ?_)
  · rw [if_pos c] at h
    cases h
    exact hf
  · rw [if_neg c] at h
    refine jem (p := (122 : Int32) < v0) (fun c => ?_) (fun c => ?_)
    · rw [if_pos c] at h
      cases h
      exact hf
    · rw [if_neg c] at h
      cases h
      exact hf

def W_M_isDigit : List (Nat × Nat) := []
theorem fr_M_isDigit {v0 : Int32} {m : jMem} {r : (Int32 × jMem)} (h : f_M_isDigit v0 m = some r) : jfr W_M_isDigit m r.2 := by
  unfold f_M_isDigit at h
  have hf : jfr W_M_isDigit m m := jfr_rf
  refine jem (p := v0 < (48 : Int32)) (fun c => ?_) (fun c => ?_)
  · rw [if_pos c] at h
    cases h
    exact hf
  · rw [if_neg c] at h
    refine jem (p := (57 : Int32) < v0) (fun c => ?_) (fun c => ?_)
    · rw [if_pos c] at h
      cases h
      exact hf
    · rw [if_neg c] at h
      cases h
      exact hf

def W_M_word : List (Nat × Nat) := []
theorem fr_lp_M_word_15 {m0 : jMem} (v1 : Int32) (v2 : Int32) (k69 : Int32 → jMem → Option (Int32 × jMem))
    (hk69 : ∀ (v3 : Int32) (m : jMem) (r : (Int32 × jMem)), jfr W_M_word m0 m → k69 v3 m = some r → jfr W_M_word m0 r.2) : ∀ (n : Nat) (v3 : Int32) (m : jMem) (r : (Int32 × jMem)), jfr W_M_word m0 m → lp_M_word_15 v1 v2 k69 n v3 m = some r → jfr W_M_word m0 r.2 := by
  intro n
  induction n with
  | zero => intro v3 m r hf h; unfold lp_M_word_15 at h; cases h
  | succ n ih =>
    intro v3 m r hf h
    unfold lp_M_word_15 at h
    obtain ⟨x2, ex2, g, h⟩ := jSC_some h
    refine jem (p := x2 = (32 : Int32)) (fun c => ?_) (fun c => ?_)
    · rw [if_pos c] at h
      exact hk69 v3 m _ hf h
    · rw [if_neg c] at h
      refine jem (p := (m 109 17) ≤ ((m 109 18) + v3)) (fun c => ?_) (fun c => ?_)
      · rw [if_pos c] at h
        exact hk69 v3 m _ hf h
      · rw [if_neg c] at h
        obtain ⟨x3, ex3, g, h⟩ := jld_some h
        obtain ⟨x4, ex4, g, h⟩ := jSC_some h
        refine jem_ne (p := x3 = x4) (fun c => ?_) (fun c => ?_)
        · rw [if_neg c] at h
          exact hk69 v3 m _ hf h
        · rw [if_pos c] at h
          exact ih (v3 + (1 : Int32)) m _ hf h
theorem fr_lp_M_word_97 {m0 : jMem} (v1 : Int32) (k114 : Int32 → jMem → Option (Int32 × jMem))
    (hk114 : ∀ (v2 : Int32) (m : jMem) (r : (Int32 × jMem)), jfr W_M_word m0 m → k114 v2 m = some r → jfr W_M_word m0 r.2) : ∀ (n : Nat) (v2 : Int32) (m : jMem) (r : (Int32 × jMem)), jfr W_M_word m0 m → lp_M_word_97 v1 k114 n v2 m = some r → jfr W_M_word m0 r.2 := by
  intro n
  induction n with
  | zero => intro v2 m r hf h; unfold lp_M_word_97 at h; cases h
  | succ n ih =>
    intro v2 m r hf h
    unfold lp_M_word_97 at h
    obtain ⟨x8, ex8, g, h⟩ := jSC_some h
    refine jem (p := x8 = (32 : Int32)) (fun c => ?_) (fun c => ?_)
    · rw [if_pos c] at h
      exact hk114 v2 m _ hf h
    · rw [if_neg c] at h
      exact ih (v2 + (1 : Int32)) m _ hf h
theorem fr_lp_M_word_4 {m0 : jMem} (k95 : Int32 → jMem → Option (Int32 × jMem)) (k123 : jMem → Option (Int32 × jMem))
    (hk95 : ∀ (v1 : Int32) (m : jMem) (r : (Int32 × jMem)), jfr W_M_word m0 m → k95 v1 m = some r → jfr W_M_word m0 r.2)
    (hk123 : ∀ (m : jMem) (r : (Int32 × jMem)), jfr W_M_word m0 m → k123 m = some r → jfr W_M_word m0 r.2) : ∀ (n : Nat) (v1 : Int32) (v2 : Int32) (m : jMem) (r : (Int32 × jMem)), jfr W_M_word m0 m → lp_M_word_4 k95 k123 n v1 v2 m = some r → jfr W_M_word m0 r.2 := by
  intro n
  induction n with
  | zero => intro v1 v2 m r hf h; unfold lp_M_word_4 at h; cases h
  | succ n ih =>
    intro v1 v2 m r hf h
    unfold lp_M_word_4 at h
    obtain ⟨x1, ex1, g, h⟩ := jSL_some h
    refine jem (p := x1 ≤ v2) (fun c => ?_) (fun c => ?_)
    · rw [if_pos c] at h
      exact hk123  m _ hf h
    · rw [if_neg c] at h
      refine fr_lp_M_word_15 v1 v2 _ ?_ _ (0 : Int32) m _ hf h
      intro w6 m5 r hf h
      obtain ⟨x7, ex7, g, h⟩ := jSC_some h
      refine jem_ne (p := x7 = (32 : Int32)) (fun c => ?_) (fun c => ?_)
      · rw [if_neg c] at h
        refine fr_lp_M_word_97 v1 _ ?_ _ v2 m5 _ hf h
        intro w10 m9 r hf h
        exact ih (v1 + (1 : Int32)) (w10 + (1 : Int32)) m9 _ hf h
      · rw [if_pos c] at h
        refine jem_ne (p := ((m5 109 18) + w6) = (m5 109 17)) (fun c => ?_) (fun c => ?_)
        · rw [if_neg c] at h
          refine fr_lp_M_word_97 v1 _ ?_ _ v2 m5 _ hf h
          intro w12 m11 r hf h
          exact ih (v1 + (1 : Int32)) (w12 + (1 : Int32)) m11 _ hf h
        · rw [if_pos c] at h
          exact hk95 v1 m5 _ hf h
theorem fr_M_word {m : jMem} {r : (Int32 × jMem)} (h : f_M_word m = some r) : jfr W_M_word m r.2 := by
  unfold f_M_word at h
  have hf : jfr W_M_word m m := jfr_rf
  refine fr_lp_M_word_4 _ _ ?_ ?_ _ (0 : Int32) (0 : Int32) m _ hf h
  · intro w14 m13 r hf h
    cases h
    exact hf
  · intro m15 r hf h
    cases h
    exact hf

def W_M_next : List (Nat × Nat) := [(109, 18), (109, 19), (109, 20), (109, 21)]
theorem fr_lp_M_next_0 {m0 : jMem} (k31 : jMem → Option (Unit × jMem))
    (hk31 : ∀ (m : jMem) (r : (Unit × jMem)), jfr W_M_next m0 m → k31 m = some r → jfr W_M_next m0 r.2) : ∀ (n : Nat) (m : jMem) (r : (Unit × jMem)), jfr W_M_next m0 m → lp_M_next_0 k31 n m = some r → jfr W_M_next m0 r.2 := by
  intro n
  induction n with
  | zero => intro m r hf h; unfold lp_M_next_0 at h; cases h
  | succ n ih =>
    intro m r hf h
    unfold lp_M_next_0 at h
    obtain ⟨x1, m2, zm2, h⟩ := jbd_some h
    replace hf := jfr_tr hf (jfr_sub (W := W_M_here) rfl (fr_M_here zm2))
    refine jem (p := x1 = (10 : Int32)) (fun c => ?_) (fun c => ?_)
    · rw [if_pos c] at h
      obtain ⟨m3, hm3, h⟩ := jpu_some h
      replace hf := jfr_tr hf (jfr_up hm3 rfl)
      exact ih  m3 _ hf h
    · rw [if_neg c] at h
      obtain ⟨x4, m5, zm5, h⟩ := jbd_some h
      replace hf := jfr_tr hf (jfr_sub (W := W_M_here) rfl (fr_M_here zm5))
      refine jem_ne (p := x4 = (32 : Int32)) (fun c => ?_) (fun c => ?_)
      · rw [if_neg c] at h
        exact hk31  m5 _ hf h
      · rw [if_pos c] at h
        obtain ⟨m6, hm6, h⟩ := jpu_some h
        replace hf := jfr_tr hf (jfr_up hm6 rfl)
        exact ih  m6 _ hf h
theorem fr_lp_M_next_128 {m0 : jMem} (k187 : jMem → Option (Unit × jMem))
    (hk187 : ∀ (m : jMem) (r : (Unit × jMem)), jfr W_M_next m0 m → k187 m = some r → jfr W_M_next m0 r.2) : ∀ (n : Nat) (m : jMem) (r : (Unit × jMem)), jfr W_M_next m0 m → lp_M_next_128 k187 n m = some r → jfr W_M_next m0 r.2 := by
  intro n
  induction n with
  | zero => intro m r hf h; unfold lp_M_next_128 at h; cases h
  | succ n ih =>
    intro m r hf h
    unfold lp_M_next_128 at h
    obtain ⟨x71, m72, zm72, h⟩ := jbd_some h
    replace hf := jfr_tr hf (jfr_sub (W := W_M_here) rfl (fr_M_here zm72))
    obtain ⟨x73, m74, zm74, h⟩ := jbd_some h
    replace hf := jfr_tr hf (jfr_sub (W := W_M_isDigit) rfl (fr_M_isDigit zm74))
    refine jem (p := x73 = 0) (fun c => ?_) (fun c => ?_)
    · rw [if_pos c] at h
      exact hk187  m74 _ hf h
    · rw [if_neg c] at h
      refine jem (p := (m74 109 20) ≤ (999 : Int32)) (fun c => ?_) (fun c => ?_)
      · rw [if_pos c] at h
        obtain ⟨x75, m76, zm76, h⟩ := jbd_some h
        replace hf := jfr_tr hf (jfr_sub (W := W_M_here) rfl (fr_M_here zm76))
        obtain ⟨m77, hm77, h⟩ := jpu_some h
        replace hf := jfr_tr hf (jfr_up hm77 rfl)
        obtain ⟨m78, hm78, h⟩ := jpu_some h
        replace hf := jfr_tr hf (jfr_up hm78 rfl)
        exact ih  m78 _ hf h
      · rw [if_neg c] at h
        obtain ⟨m79, hm79, h⟩ := jpu_some h
        replace hf := jfr_tr hf (jfr_up hm79 rfl)
        obtain ⟨m80, hm80, h⟩ := jpu_some h
        replace hf := jfr_tr hf (jfr_up hm80 rfl)
        exact ih  m80 _ hf h
theorem fr_lp_M_next_62 {m0 : jMem} (k85 : jMem → Option (Unit × jMem))
    (hk85 : ∀ (m : jMem) (r : (Unit × jMem)), jfr W_M_next m0 m → k85 m = some r → jfr W_M_next m0 r.2) : ∀ (n : Nat) (m : jMem) (r : (Unit × jMem)), jfr W_M_next m0 m → lp_M_next_62 k85 n m = some r → jfr W_M_next m0 r.2 := by
  intro n
  induction n with
  | zero => intro m r hf h; unfold lp_M_next_62 at h; cases h
  | succ n ih =>
    intro m r hf h
    unfold lp_M_next_62 at h
    obtain ⟨x82, m83, zm83, h⟩ := jbd_some h
    replace hf := jfr_tr hf (jfr_sub (W := W_M_here) rfl (fr_M_here zm83))
    obtain ⟨x84, m85, zm85, h⟩ := jbd_some h
    replace hf := jfr_tr hf (jfr_sub (W := W_M_isSmall) rfl (fr_M_isSmall zm85))
    refine jem (p := x84 = 0) (fun c => ?_) (fun c => ?_)
    · rw [if_pos c] at h
      exact hk85  m85 _ hf h
    · rw [if_neg c] at h
      obtain ⟨m86, hm86, h⟩ := jpu_some h
      replace hf := jfr_tr hf (jfr_up hm86 rfl)
      exact ih  m86 _ hf h
theorem fr_M_next {m : jMem} {r : (Unit × jMem)} (h : f_M_next m = some r) : jfr W_M_next m r.2 := by
  unfold f_M_next at h
  have hf : jfr W_M_next m m := jfr_rf
  refine fr_lp_M_next_0 _ ?_ _ m _ hf h
  intro m7 r hf h
  obtain ⟨m8, hm8, h⟩ := jpu_some h
  replace hf := jfr_tr hf (jfr_up hm8 rfl)
  obtain ⟨x9, m10, zm10, h⟩ := jbd_some h
  replace hf := jfr_tr hf (jfr_sub (W := W_M_here) rfl (fr_M_here zm10))
  refine jem_ne (p := x9 = (-1 : Int32)) (fun c => ?_) (fun c => ?_)
  · rw [if_neg c] at h
    obtain ⟨x11, m12, zm12, h⟩ := jbd_some h
    replace hf := jfr_tr hf (jfr_sub (W := W_M_isSmall) rfl (fr_M_isSmall zm12))
    refine jem (p := x11 = 0) (fun c => ?_) (fun c => ?_)
    · rw [if_pos c] at h
      obtain ⟨x13, m14, zm14, h⟩ := jbd_some h
      replace hf := jfr_tr hf (jfr_sub (W := W_M_isDigit) rfl (fr_M_isDigit zm14))
      refine jem (p := x13 = 0) (fun c => ?_) (fun c => ?_)
      · rw [if_pos c] at h
        obtain ⟨m15, hm15, h⟩ := jpu_some h
        replace hf := jfr_tr hf (jfr_up hm15 rfl)
        obtain ⟨m16, hm16, h⟩ := jpu_some h
        replace hf := jfr_tr hf (jfr_up hm16 rfl)
        obtain ⟨m17, hm17, h⟩ := jpu_some h
        replace hf := jfr_tr hf (jfr_up hm17 rfl)
        refine jem_ne (p := x9 = (60 : Int32)) (fun c => ?_) (fun c => ?_)
        · rw [if_neg c] at h
          refine jem_ne (p := x9 = (60 : Int32)) (fun c => ?_) (fun c => ?_)
          · rw [if_neg c] at h
            refine jem_ne (p := x9 = (62 : Int32)) (fun c => ?_) (fun c => ?_)
            · rw [if_neg c] at h
              refine jem (p := (m17 109 20) = x9) (fun c => ?_) (fun c => ?_)
              · rw [if_pos c] at h
                refine jem (p := x9 = (59 : Int32)) (fun c => ?_) (fun c => ?_)
                · rw [if_pos c] at h
                  cases h
                  exact hf
                · rw [if_neg c] at h
                  refine jem (p := x9 = (45 : Int32)) (fun c => ?_) (fun c => ?_)
                  · rw [if_pos c] at h
                    cases h
                    exact hf
                  · rw [if_neg c] at h
                    refine jem (p := x9 = (43 : Int32)) (fun c => ?_) (fun c => ?_)
                    · rw [if_pos c] at h
                      cases h
                      exact hf
                    · rw [if_neg c] at h
                      refine jem (p := x9 = (40 : Int32)) (fun c => ?_) (fun c => ?_)
                      · rw [if_pos c] at h
                        cases h
                        exact hf
                      · rw [if_neg c] at h
                        refine jem (p := x9 = (41 : Int32)) (fun c => ?_) (fun c => ?_)
                        · rw [if_pos c] at h
                          cases h
                          exact hf
                        · rw [if_neg c] at h
                          refine jem (p := x9 = (60 : Int32)) (fun c => ?_) (fun c => ?_)
                          · rw [if_pos c] at h
                            cases h
                            exact hf
                          · rw [if_neg c] at h
                            refine jem (p := x9 = (61 : Int32)) (fun c => ?_) (fun c => ?_)
                            · rw [if_pos c] at h
                              cases h
                              exact hf
                            · rw [if_neg c] at h
                              refine jem (p := x9 = (62 : Int32)) (fun c => ?_) (fun c => ?_)
                              · rw [if_pos c] at h
                                cases h
                                exact hf
                              · rw [if_neg c] at h
                                obtain ⟨m18, hm18, h⟩ := jpu_some h
                                replace hf := jfr_tr hf (jfr_up hm18 rfl)
                                cases h
                                exact hf
              · rw [if_neg c] at h
                obtain ⟨m19, hm19, h⟩ := jpu_some h
                replace hf := jfr_tr hf (jfr_up hm19 rfl)
                cases h
                exact hf
            · rw [if_pos c] at h
              obtain ⟨x20, m21, zm21, h⟩ := jbd_some h
              replace hf := jfr_tr hf (jfr_sub (W := W_M_here) rfl (fr_M_here zm21))
              refine jem_ne (p := x20 = (61 : Int32)) (fun c => ?_) (fun c => ?_)
              · rw [if_neg c] at h
                refine jem (p := (m21 109 20) = x9) (fun c => ?_) (fun c => ?_)
                · rw [if_pos c] at h
                  refine jem (p := x9 = (59 : Int32)) (fun c => ?_) (fun c => ?_)
                  · rw [if_pos c] at h
                    cases h
                    exact hf
                  · rw [if_neg c] at h
                    refine jem (p := x9 = (45 : Int32)) (fun c => ?_) (fun c => ?_)
                    · rw [if_pos c] at h
                      cases h
                      exact hf
                    · rw [if_neg c] at h
                      refine jem (p := x9 = (43 : Int32)) (fun c => ?_) (fun c => ?_)
                      · rw [if_pos c] at h
                        cases h
                        exact hf
                      · rw [if_neg c] at h
                        refine jem (p := x9 = (40 : Int32)) (fun c => ?_) (fun c => ?_)
                        · rw [if_pos c] at h
                          cases h
                          exact hf
                        · rw [if_neg c] at h
                          refine jem (p := x9 = (41 : Int32)) (fun c => ?_) (fun c => ?_)
                          · rw [if_pos c] at h
                            cases h
                            exact hf
                          · rw [if_neg c] at h
                            refine jem (p := x9 = (60 : Int32)) (fun c => ?_) (fun c => ?_)
                            · rw [if_pos c] at h
                              cases h
                              exact hf
                            · rw [if_neg c] at h
                              refine jem (p := x9 = (61 : Int32)) (fun c => ?_) (fun c => ?_)
                              · rw [if_pos c] at h
                                cases h
                                exact hf
                              · rw [if_neg c] at h
                                refine jem (p := x9 = (62 : Int32)) (fun c => ?_) (fun c => ?_)
                                · rw [if_pos c] at h
                                  cases h
                                  exact hf
                                · rw [if_neg c] at h
                                  obtain ⟨m22, hm22, h⟩ := jpu_some h
                                  replace hf := jfr_tr hf (jfr_up hm22 rfl)
                                  cases h
                                  exact hf
                · rw [if_neg c] at h
                  obtain ⟨m23, hm23, h⟩ := jpu_some h
                  replace hf := jfr_tr hf (jfr_up hm23 rfl)
                  cases h
                  exact hf
              · rw [if_pos c] at h
                obtain ⟨m24, hm24, h⟩ := jpu_some h
                replace hf := jfr_tr hf (jfr_up hm24 rfl)
                refine jem (p := (m24 109 20) = x9) (fun c => ?_) (fun c => ?_)
                · rw [if_pos c] at h
                  refine jem (p := x9 = (59 : Int32)) (fun c => ?_) (fun c => ?_)
                  · rw [if_pos c] at h
                    cases h
                    exact hf
                  · rw [if_neg c] at h
                    refine jem (p := x9 = (45 : Int32)) (fun c => ?_) (fun c => ?_)
                    · rw [if_pos c] at h
                      cases h
                      exact hf
                    · rw [if_neg c] at h
                      refine jem (p := x9 = (43 : Int32)) (fun c => ?_) (fun c => ?_)
                      · rw [if_pos c] at h
                        cases h
                        exact hf
                      · rw [if_neg c] at h
                        refine jem (p := x9 = (40 : Int32)) (fun c => ?_) (fun c => ?_)
                        · rw [if_pos c] at h
                          cases h
                          exact hf
                        · rw [if_neg c] at h
                          refine jem (p := x9 = (41 : Int32)) (fun c => ?_) (fun c => ?_)
                          · rw [if_pos c] at h
                            cases h
                            exact hf
                          · rw [if_neg c] at h
                            refine jem (p := x9 = (60 : Int32)) (fun c => ?_) (fun c => ?_)
                            · rw [if_pos c] at h
                              cases h
                              exact hf
                            · rw [if_neg c] at h
                              refine jem (p := x9 = (61 : Int32)) (fun c => ?_) (fun c => ?_)
                              · rw [if_pos c] at h
                                cases h
                                exact hf
                              · rw [if_neg c] at h
                                refine jem (p := x9 = (62 : Int32)) (fun c => ?_) (fun c => ?_)
                                · rw [if_pos c] at h
                                  cases h
                                  exact hf
                                · rw [if_neg c] at h
                                  obtain ⟨m25, hm25, h⟩ := jpu_some h
                                  replace hf := jfr_tr hf (jfr_up hm25 rfl)
                                  cases h
                                  exact hf
                · rw [if_neg c] at h
                  obtain ⟨m26, hm26, h⟩ := jpu_some h
                  replace hf := jfr_tr hf (jfr_up hm26 rfl)
                  cases h
                  exact hf
          · rw [if_pos c] at h
            obtain ⟨x27, m28, zm28, h⟩ := jbd_some h
            replace hf := jfr_tr hf (jfr_sub (W := W_M_here) rfl (fr_M_here zm28))
            refine jem_ne (p := x27 = (62 : Int32)) (fun c => ?_) (fun c => ?_)
            · rw [if_neg c] at h
              refine jem_ne (p := x9 = (62 : Int32)) (fun c => ?_) (fun c => ?_)
              · rw [if_neg c] at h
                refine jem (p := (m28 109 20) = x9) (fun c => ?_) (fun c => ?_)
                · rw [if_pos c] at h
                  refine jem (p := x9 = (59 : Int32)) (fun c => ?_) (fun c => ?_)
                  · rw [if_pos c] at h
                    cases h
                    exact hf
                  · rw [if_neg c] at h
                    refine jem (p := x9 = (45 : Int32)) (fun c => ?_) (fun c => ?_)
                    · rw [if_pos c] at h
                      cases h
                      exact hf
                    · rw [if_neg c] at h
                      refine jem (p := x9 = (43 : Int32)) (fun c => ?_) (fun c => ?_)
                      · rw [if_pos c] at h
                        cases h
                        exact hf
                      · rw [if_neg c] at h
                        refine jem (p := x9 = (40 : Int32)) (fun c => ?_) (fun c => ?_)
                        · rw [if_pos c] at h
                          cases h
                          exact hf
                        · rw [if_neg c] at h
                          refine jem (p := x9 = (41 : Int32)) (fun c => ?_) (fun c => ?_)
                          · rw [if_pos c] at h
                            cases h
                            exact hf
                          · rw [if_neg c] at h
                            refine jem (p := x9 = (60 : Int32)) (fun c => ?_) (fun c => ?_)
                            · rw [if_pos c] at h
                              cases h
                              exact hf
                            · rw [if_neg c] at h
                              refine jem (p := x9 = (61 : Int32)) (fun c => ?_) (fun c => ?_)
                              · rw [if_pos c] at h
                                cases h
                                exact hf
                              · rw [if_neg c] at h
                                refine jem (p := x9 = (62 : Int32)) (fun c => ?_) (fun c => ?_)
                                · rw [if_pos c] at h
                                  cases h
                                  exact hf
                                · rw [if_neg c] at h
                                  obtain ⟨m29, hm29, h⟩ := jpu_some h
                                  replace hf := jfr_tr hf (jfr_up hm29 rfl)
                                  cases h
                                  exact hf
                · rw [if_neg c] at h
                  obtain ⟨m30, hm30, h⟩ := jpu_some h
                  replace hf := jfr_tr hf (jfr_up hm30 rfl)
                  cases h
                  exact hf
              · rw [if_pos c] at h
                obtain ⟨x31, m32, zm32, h⟩ := jbd_some h
                replace hf := jfr_tr hf (jfr_sub (W := W_M_here) rfl (fr_M_here zm32))
                refine jem_ne (p := x31 = (61 : Int32)) (fun c => ?_) (fun c => ?_)
                · rw [if_neg c] at h
                  refine jem (p := (m32 109 20) = x9) (fun c => ?_) (fun c => ?_)
                  · rw [if_pos c] at h
                    refine jem (p := x9 = (59 : Int32)) (fun c => ?_) (fun c => ?_)
                    · rw [if_pos c] at h
                      cases h
                      exact hf
                    · rw [if_neg c] at h
                      refine jem (p := x9 = (45 : Int32)) (fun c => ?_) (fun c => ?_)
                      · rw [if_pos c] at h
                        cases h
                        exact hf
                      · rw [if_neg c] at h
                        refine jem (p := x9 = (43 : Int32)) (fun c => ?_) (fun c => ?_)
                        · rw [if_pos c] at h
                          cases h
                          exact hf
                        · rw [if_neg c] at h
                          refine jem (p := x9 = (40 : Int32)) (fun c => ?_) (fun c => ?_)
                          · rw [if_pos c] at h
                            cases h
                            exact hf
                          · rw [if_neg c] at h
                            refine jem (p := x9 = (41 : Int32)) (fun c => ?_) (fun c => ?_)
                            · rw [if_pos c] at h
                              cases h
                              exact hf
                            · rw [if_neg c] at h
                              refine jem (p := x9 = (60 : Int32)) (fun c => ?_) (fun c => ?_)
                              · rw [if_pos c] at h
                                cases h
                                exact hf
                              · rw [if_neg c] at h
                                refine jem (p := x9 = (61 : Int32)) (fun c => ?_) (fun c => ?_)
                                · rw [if_pos c] at h
                                  cases h
                                  exact hf
                                · rw [if_neg c] at h
                                  refine jem (p := x9 = (62 : Int32)) (fun c => ?_) (fun c => ?_)
                                  · rw [if_pos c] at h
                                    cases h
                                    exact hf
                                  · rw [if_neg c] at h
                                    obtain ⟨m33, hm33, h⟩ := jpu_some h
                                    replace hf := jfr_tr hf (jfr_up hm33 rfl)
                                    cases h
                                    exact hf
                  · rw [if_neg c] at h
                    obtain ⟨m34, hm34, h⟩ := jpu_some h
                    replace hf := jfr_tr hf (jfr_up hm34 rfl)
                    cases h
                    exact hf
                · rw [if_pos c] at h
                  obtain ⟨m35, hm35, h⟩ := jpu_some h
                  replace hf := jfr_tr hf (jfr_up hm35 rfl)
                  refine jem (p := (m35 109 20) = x9) (fun c => ?_) (fun c => ?_)
                  · rw [if_pos c] at h
                    refine jem (p := x9 = (59 : Int32)) (fun c => ?_) (fun c => ?_)
                    · rw [if_pos c] at h
                      cases h
                      exact hf
                    · rw [if_neg c] at h
                      refine jem (p := x9 = (45 : Int32)) (fun c => ?_) (fun c => ?_)
                      · rw [if_pos c] at h
                        cases h
                        exact hf
                      · rw [if_neg c] at h
                        refine jem (p := x9 = (43 : Int32)) (fun c => ?_) (fun c => ?_)
                        · rw [if_pos c] at h
                          cases h
                          exact hf
                        · rw [if_neg c] at h
                          refine jem (p := x9 = (40 : Int32)) (fun c => ?_) (fun c => ?_)
                          · rw [if_pos c] at h
                            cases h
                            exact hf
                          · rw [if_neg c] at h
                            refine jem (p := x9 = (41 : Int32)) (fun c => ?_) (fun c => ?_)
                            · rw [if_pos c] at h
                              cases h
                              exact hf
                            · rw [if_neg c] at h
                              refine jem (p := x9 = (60 : Int32)) (fun c => ?_) (fun c => ?_)
                              · rw [if_pos c] at h
                                cases h
                                exact hf
                              · rw [if_neg c] at h
                                refine jem (p := x9 = (61 : Int32)) (fun c => ?_) (fun c => ?_)
                                · rw [if_pos c] at h
                                  cases h
                                  exact hf
                                · rw [if_neg c] at h
                                  refine jem (p := x9 = (62 : Int32)) (fun c => ?_) (fun c => ?_)
                                  · rw [if_pos c] at h
                                    cases h
                                    exact hf
                                  · rw [if_neg c] at h
                                    obtain ⟨m36, hm36, h⟩ := jpu_some h
                                    replace hf := jfr_tr hf (jfr_up hm36 rfl)
                                    cases h
                                    exact hf
                  · rw [if_neg c] at h
                    obtain ⟨m37, hm37, h⟩ := jpu_some h
                    replace hf := jfr_tr hf (jfr_up hm37 rfl)
                    cases h
                    exact hf
            · rw [if_pos c] at h
              obtain ⟨m38, hm38, h⟩ := jpu_some h
              replace hf := jfr_tr hf (jfr_up hm38 rfl)
              refine jem (p := (m38 109 20) = x9) (fun c => ?_) (fun c => ?_)
              · rw [if_pos c] at h
                refine jem (p := x9 = (59 : Int32)) (fun c => ?_) (fun c => ?_)
                · rw [if_pos c] at h
                  cases h
                  exact hf
                · rw [if_neg c] at h
                  refine jem (p := x9 = (45 : Int32)) (fun c => ?_) (fun c => ?_)
                  · rw [if_pos c] at h
                    cases h
                    exact hf
                  · rw [if_neg c] at h
                    refine jem (p := x9 = (43 : Int32)) (fun c => ?_) (fun c => ?_)
                    · rw [if_pos c] at h
                      cases h
                      exact hf
                    · rw [if_neg c] at h
                      refine jem (p := x9 = (40 : Int32)) (fun c => ?_) (fun c => ?_)
                      · rw [if_pos c] at h
                        cases h
                        exact hf
                      · rw [if_neg c] at h
                        refine jem (p := x9 = (41 : Int32)) (fun c => ?_) (fun c => ?_)
                        · rw [if_pos c] at h
                          cases h
                          exact hf
                        · rw [if_neg c] at h
                          refine jem (p := x9 = (60 : Int32)) (fun c => ?_) (fun c => ?_)
                          · rw [if_pos c] at h
                            cases h
                            exact hf
                          · rw [if_neg c] at h
                            refine jem (p := x9 = (61 : Int32)) (fun c => ?_) (fun c => ?_)
                            · rw [if_pos c] at h
                              cases h
                              exact hf
                            · rw [if_neg c] at h
                              refine jem (p := x9 = (62 : Int32)) (fun c => ?_) (fun c => ?_)
                              · rw [if_pos c] at h
                                cases h
                                exact hf
                              · rw [if_neg c] at h
                                obtain ⟨m39, hm39, h⟩ := jpu_some h
                                replace hf := jfr_tr hf (jfr_up hm39 rfl)
                                cases h
                                exact hf
              · rw [if_neg c] at h
                obtain ⟨m40, hm40, h⟩ := jpu_some h
                replace hf := jfr_tr hf (jfr_up hm40 rfl)
                cases h
                exact hf
        · rw [if_pos c] at h
          obtain ⟨x41, m42, zm42, h⟩ := jbd_some h
          replace hf := jfr_tr hf (jfr_sub (W := W_M_here) rfl (fr_M_here zm42))
          refine jem_ne (p := x41 = (61 : Int32)) (fun c => ?_) (fun c => ?_)
          · rw [if_neg c] at h
            refine jem_ne (p := x9 = (60 : Int32)) (fun c => ?_) (fun c => ?_)
            · rw [if_neg c] at h
              refine jem_ne (p := x9 = (62 : Int32)) (fun c => ?_) (fun c => ?_)
              · rw [if_neg c] at h
                refine jem (p := (m42 109 20) = x9) (fun c => ?_) (fun c => ?_)
                · rw [if_pos c] at h
                  refine jem (p := x9 = (59 : Int32)) (fun c => ?_) (fun c => ?_)
                  · rw [if_pos c] at h
                    cases h
                    exact hf
                  · rw [if_neg c] at h
                    refine jem (p := x9 = (45 : Int32)) (fun c => ?_) (fun c => ?_)
                    · rw [if_pos c] at h
                      cases h
                      exact hf
                    · rw [if_neg c] at h
                      refine jem (p := x9 = (43 : Int32)) (fun c => ?_) (fun c => ?_)
                      · rw [if_pos c] at h
                        cases h
                        exact hf
                      · rw [if_neg c] at h
                        refine jem (p := x9 = (40 : Int32)) (fun c => ?_) (fun c => ?_)
                        · rw [if_pos c] at h
                          cases h
                          exact hf
                        · rw [if_neg c] at h
                          refine jem (p := x9 = (41 : Int32)) (fun c => ?_) (fun c => ?_)
                          · rw [if_pos c] at h
                            cases h
                            exact hf
                          · rw [if_neg c] at h
                            refine jem (p := x9 = (60 : Int32)) (fun c => ?_) (fun c => ?_)
                            · rw [if_pos c] at h
                              cases h
                              exact hf
                            · rw [if_neg c] at h
                              refine jem (p := x9 = (61 : Int32)) (fun c => ?_) (fun c => ?_)
                              · rw [if_pos c] at h
                                cases h
                                exact hf
                              · rw [if_neg c] at h
                                refine jem (p := x9 = (62 : Int32)) (fun c => ?_) (fun c => ?_)
                                · rw [if_pos c] at h
                                  cases h
                                  exact hf
                                · rw [if_neg c] at h
                                  obtain ⟨m43, hm43, h⟩ := jpu_some h
                                  replace hf := jfr_tr hf (jfr_up hm43 rfl)
                                  cases h
                                  exact hf
                · rw [if_neg c] at h
                  obtain ⟨m44, hm44, h⟩ := jpu_some h
                  replace hf := jfr_tr hf (jfr_up hm44 rfl)
                  cases h
                  exact hf
              · rw [if_pos c] at h
                obtain ⟨x45, m46, zm46, h⟩ := jbd_some h
                replace hf := jfr_tr hf (jfr_sub (W := W_M_here) rfl (fr_M_here zm46))
                refine jem_ne (p := x45 = (61 : Int32)) (fun c => ?_) (fun c => ?_)
                · rw [if_neg c] at h
                  refine jem (p := (m46 109 20) = x9) (fun c => ?_) (fun c => ?_)
                  · rw [if_pos c] at h
                    refine jem (p := x9 = (59 : Int32)) (fun c => ?_) (fun c => ?_)
                    · rw [if_pos c] at h
                      cases h
                      exact hf
                    · rw [if_neg c] at h
                      refine jem (p := x9 = (45 : Int32)) (fun c => ?_) (fun c => ?_)
                      · rw [if_pos c] at h
                        cases h
                        exact hf
                      · rw [if_neg c] at h
                        refine jem (p := x9 = (43 : Int32)) (fun c => ?_) (fun c => ?_)
                        · rw [if_pos c] at h
                          cases h
                          exact hf
                        · rw [if_neg c] at h
                          refine jem (p := x9 = (40 : Int32)) (fun c => ?_) (fun c => ?_)
                          · rw [if_pos c] at h
                            cases h
                            exact hf
                          · rw [if_neg c] at h
                            refine jem (p := x9 = (41 : Int32)) (fun c => ?_) (fun c => ?_)
                            · rw [if_pos c] at h
                              cases h
                              exact hf
                            · rw [if_neg c] at h
                              refine jem (p := x9 = (60 : Int32)) (fun c => ?_) (fun c => ?_)
                              · rw [if_pos c] at h
                                cases h
                                exact hf
                              · rw [if_neg c] at h
                                refine jem (p := x9 = (61 : Int32)) (fun c => ?_) (fun c => ?_)
                                · rw [if_pos c] at h
                                  cases h
                                  exact hf
                                · rw [if_neg c] at h
                                  refine jem (p := x9 = (62 : Int32)) (fun c => ?_) (fun c => ?_)
                                  · rw [if_pos c] at h
                                    cases h
                                    exact hf
                                  · rw [if_neg c] at h
                                    obtain ⟨m47, hm47, h⟩ := jpu_some h
                                    replace hf := jfr_tr hf (jfr_up hm47 rfl)
                                    cases h
                                    exact hf
                  · rw [if_neg c] at h
                    obtain ⟨m48, hm48, h⟩ := jpu_some h
                    replace hf := jfr_tr hf (jfr_up hm48 rfl)
                    cases h
                    exact hf
                · rw [if_pos c] at h
                  obtain ⟨m49, hm49, h⟩ := jpu_some h
                  replace hf := jfr_tr hf (jfr_up hm49 rfl)
                  refine jem (p := (m49 109 20) = x9) (fun c => ?_) (fun c => ?_)
                  · rw [if_pos c] at h
                    refine jem (p := x9 = (59 : Int32)) (fun c => ?_) (fun c => ?_)
                    · rw [if_pos c] at h
                      cases h
                      exact hf
                    · rw [if_neg c] at h
                      refine jem (p := x9 = (45 : Int32)) (fun c => ?_) (fun c => ?_)
                      · rw [if_pos c] at h
                        cases h
                        exact hf
                      · rw [if_neg c] at h
                        refine jem (p := x9 = (43 : Int32)) (fun c => ?_) (fun c => ?_)
                        · rw [if_pos c] at h
                          cases h
                          exact hf
                        · rw [if_neg c] at h
                          refine jem (p := x9 = (40 : Int32)) (fun c => ?_) (fun c => ?_)
                          · rw [if_pos c] at h
                            cases h
                            exact hf
                          · rw [if_neg c] at h
                            refine jem (p := x9 = (41 : Int32)) (fun c => ?_) (fun c => ?_)
                            · rw [if_pos c] at h
                              cases h
                              exact hf
                            · rw [if_neg c] at h
                              refine jem (p := x9 = (60 : Int32)) (fun c => ?_) (fun c => ?_)
                              · rw [if_pos c] at h
                                cases h
                                exact hf
                              · rw [if_neg c] at h
                                refine jem (p := x9 = (61 : Int32)) (fun c => ?_) (fun c => ?_)
                                · rw [if_pos c] at h
                                  cases h
                                  exact hf
                                · rw [if_neg c] at h
                                  refine jem (p := x9 = (62 : Int32)) (fun c => ?_) (fun c => ?_)
                                  · rw [if_pos c] at h
                                    cases h
                                    exact hf
                                  · rw [if_neg c] at h
                                    obtain ⟨m50, hm50, h⟩ := jpu_some h
                                    replace hf := jfr_tr hf (jfr_up hm50 rfl)
                                    cases h
                                    exact hf
                  · rw [if_neg c] at h
                    obtain ⟨m51, hm51, h⟩ := jpu_some h
                    replace hf := jfr_tr hf (jfr_up hm51 rfl)
                    cases h
                    exact hf
            · rw [if_pos c] at h
              obtain ⟨x52, m53, zm53, h⟩ := jbd_some h
              replace hf := jfr_tr hf (jfr_sub (W := W_M_here) rfl (fr_M_here zm53))
              refine jem_ne (p := x52 = (62 : Int32)) (fun c => ?_) (fun c => ?_)
              · rw [if_neg c] at h
                refine jem_ne (p := x9 = (62 : Int32)) (fun c => ?_) (fun c => ?_)
                · rw [if_neg c] at h
                  refine jem (p := (m53 109 20) = x9) (fun c => ?_) (fun c => ?_)
                  · rw [if_pos c] at h
                    refine jem (p := x9 = (59 : Int32)) (fun c => ?_) (fun c => ?_)
                    · rw [if_pos c] at h
                      cases h
                      exact hf
                    · rw [if_neg c] at h
                      refine jem (p := x9 = (45 : Int32)) (fun c => ?_) (fun c => ?_)
                      · rw [if_pos c] at h
                        cases h
                        exact hf
                      · rw [if_neg c] at h
                        refine jem (p := x9 = (43 : Int32)) (fun c => ?_) (fun c => ?_)
                        · rw [if_pos c] at h
                          cases h
                          exact hf
                        · rw [if_neg c] at h
                          refine jem (p := x9 = (40 : Int32)) (fun c => ?_) (fun c => ?_)
                          · rw [if_pos c] at h
                            cases h
                            exact hf
                          · rw [if_neg c] at h
                            refine jem (p := x9 = (41 : Int32)) (fun c => ?_) (fun c => ?_)
                            · rw [if_pos c] at h
                              cases h
                              exact hf
                            · rw [if_neg c] at h
                              refine jem (p := x9 = (60 : Int32)) (fun c => ?_) (fun c => ?_)
                              · rw [if_pos c] at h
                                cases h
                                exact hf
                              · rw [if_neg c] at h
                                refine jem (p := x9 = (61 : Int32)) (fun c => ?_) (fun c => ?_)
                                · rw [if_pos c] at h
                                  cases h
                                  exact hf
                                · rw [if_neg c] at h
                                  refine jem (p := x9 = (62 : Int32)) (fun c => ?_) (fun c => ?_)
                                  · rw [if_pos c] at h
                                    cases h
                                    exact hf
                                  · rw [if_neg c] at h
                                    obtain ⟨m54, hm54, h⟩ := jpu_some h
                                    replace hf := jfr_tr hf (jfr_up hm54 rfl)
                                    cases h
                                    exact hf
                  · rw [if_neg c] at h
                    obtain ⟨m55, hm55, h⟩ := jpu_some h
                    replace hf := jfr_tr hf (jfr_up hm55 rfl)
                    cases h
                    exact hf
                · rw [if_pos c] at h
                  obtain ⟨x56, m57, zm57, h⟩ := jbd_some h
                  replace hf := jfr_tr hf (jfr_sub (W := W_M_here) rfl (fr_M_here zm57))
                  refine jem_ne (p := x56 = (61 : Int32)) (fun c => ?_) (fun c => ?_)
                  · rw [if_neg c] at h
                    refine jem (p := (m57 109 20) = x9) (fun c => ?_) (fun c => ?_)
                    · rw [if_pos c] at h
                      refine jem (p := x9 = (59 : Int32)) (fun c => ?_) (fun c => ?_)
                      · rw [if_pos c] at h
                        cases h
                        exact hf
                      · rw [if_neg c] at h
                        refine jem (p := x9 = (45 : Int32)) (fun c => ?_) (fun c => ?_)
                        · rw [if_pos c] at h
                          cases h
                          exact hf
                        · rw [if_neg c] at h
                          refine jem (p := x9 = (43 : Int32)) (fun c => ?_) (fun c => ?_)
                          · rw [if_pos c] at h
                            cases h
                            exact hf
                          · rw [if_neg c] at h
                            refine jem (p := x9 = (40 : Int32)) (fun c => ?_) (fun c => ?_)
                            · rw [if_pos c] at h
                              cases h
                              exact hf
                            · rw [if_neg c] at h
                              refine jem (p := x9 = (41 : Int32)) (fun c => ?_) (fun c => ?_)
                              · rw [if_pos c] at h
                                cases h
                                exact hf
                              · rw [if_neg c] at h
                                refine jem (p := x9 = (60 : Int32)) (fun c => ?_) (fun c => ?_)
                                · rw [if_pos c] at h
                                  cases h
                                  exact hf
                                · rw [if_neg c] at h
                                  refine jem (p := x9 = (61 : Int32)) (fun c => ?_) (fun c => ?_)
                                  · rw [if_pos c] at h
                                    cases h
                                    exact hf
                                  · rw [if_neg c] at h
                                    refine jem (p := x9 = (62 : Int32)) (fun c => ?_) (fun c => ?_)
                                    · rw [if_pos c] at h
                                      cases h
                                      exact hf
                                    · rw [if_neg c] at h
                                      obtain ⟨m58, hm58, h⟩ := jpu_some h
                                      replace hf := jfr_tr hf (jfr_up hm58 rfl)
                                      cases h
                                      exact hf
                    · rw [if_neg c] at h
                      obtain ⟨m59, hm59, h⟩ := jpu_some h
                      replace hf := jfr_tr hf (jfr_up hm59 rfl)
                      cases h
                      exact hf
                  · rw [if_pos c] at h
                    obtain ⟨m60, hm60, h⟩ := jpu_some h
                    replace hf := jfr_tr hf (jfr_up hm60 rfl)
                    refine jem (p := (m60 109 20) = x9) (fun c => ?_) (fun c => ?_)
                    · rw [if_pos c] at h
                      refine jem (p := x9 = (59 : Int32)) (fun c => ?_) (fun c => ?_)
                      · rw [if_pos c] at h
                        cases h
                        exact hf
                      · rw [if_neg c] at h
                        refine jem (p := x9 = (45 : Int32)) (fun c => ?_) (fun c => ?_)
                        · rw [if_pos c] at h
                          cases h
                          exact hf
                        · rw [if_neg c] at h
                          refine jem (p := x9 = (43 : Int32)) (fun c => ?_) (fun c => ?_)
                          · rw [if_pos c] at h
                            cases h
                            exact hf
                          · rw [if_neg c] at h
                            refine jem (p := x9 = (40 : Int32)) (fun c => ?_) (fun c => ?_)
                            · rw [if_pos c] at h
                              cases h
                              exact hf
                            · rw [if_neg c] at h
                              refine jem (p := x9 = (41 : Int32)) (fun c => ?_) (fun c => ?_)
                              · rw [if_pos c] at h
                                cases h
                                exact hf
                              · rw [if_neg c] at h
                                refine jem (p := x9 = (60 : Int32)) (fun c => ?_) (fun c => ?_)
                                · rw [if_pos c] at h
                                  cases h
                                  exact hf
                                · rw [if_neg c] at h
                                  refine jem (p := x9 = (61 : Int32)) (fun c => ?_) (fun c => ?_)
                                  · rw [if_pos c] at h
                                    cases h
                                    exact hf
                                  · rw [if_neg c] at h
                                    refine jem (p := x9 = (62 : Int32)) (fun c => ?_) (fun c => ?_)
                                    · rw [if_pos c] at h
                                      cases h
                                      exact hf
                                    · rw [if_neg c] at h
                                      obtain ⟨m61, hm61, h⟩ := jpu_some h
                                      replace hf := jfr_tr hf (jfr_up hm61 rfl)
                                      cases h
                                      exact hf
                    · rw [if_neg c] at h
                      obtain ⟨m62, hm62, h⟩ := jpu_some h
                      replace hf := jfr_tr hf (jfr_up hm62 rfl)
                      cases h
                      exact hf
              · rw [if_pos c] at h
                obtain ⟨m63, hm63, h⟩ := jpu_some h
                replace hf := jfr_tr hf (jfr_up hm63 rfl)
                refine jem (p := (m63 109 20) = x9) (fun c => ?_) (fun c => ?_)
                · rw [if_pos c] at h
                  refine jem (p := x9 = (59 : Int32)) (fun c => ?_) (fun c => ?_)
                  · rw [if_pos c] at h
                    cases h
                    exact hf
                  · rw [if_neg c] at h
                    refine jem (p := x9 = (45 : Int32)) (fun c => ?_) (fun c => ?_)
                    · rw [if_pos c] at h
                      cases h
                      exact hf
                    · rw [if_neg c] at h
                      refine jem (p := x9 = (43 : Int32)) (fun c => ?_) (fun c => ?_)
                      · rw [if_pos c] at h
                        cases h
                        exact hf
                      · rw [if_neg c] at h
                        refine jem (p := x9 = (40 : Int32)) (fun c => ?_) (fun c => ?_)
                        · rw [if_pos c] at h
                          cases h
                          exact hf
                        · rw [if_neg c] at h
                          refine jem (p := x9 = (41 : Int32)) (fun c => ?_) (fun c => ?_)
                          · rw [if_pos c] at h
                            cases h
                            exact hf
                          · rw [if_neg c] at h
                            refine jem (p := x9 = (60 : Int32)) (fun c => ?_) (fun c => ?_)
                            · rw [if_pos c] at h
                              cases h
                              exact hf
                            · rw [if_neg c] at h
                              refine jem (p := x9 = (61 : Int32)) (fun c => ?_) (fun c => ?_)
                              · rw [if_pos c] at h
                                cases h
                                exact hf
                              · rw [if_neg c] at h
                                refine jem (p := x9 = (62 : Int32)) (fun c => ?_) (fun c => ?_)
                                · rw [if_pos c] at h
                                  cases h
                                  exact hf
                                · rw [if_neg c] at h
                                  obtain ⟨m64, hm64, h⟩ := jpu_some h
                                  replace hf := jfr_tr hf (jfr_up hm64 rfl)
                                  cases h
                                  exact hf
                · rw [if_neg c] at h
                  obtain ⟨m65, hm65, h⟩ := jpu_some h
                  replace hf := jfr_tr hf (jfr_up hm65 rfl)
                  cases h
                  exact hf
          · rw [if_pos c] at h
            obtain ⟨m66, hm66, h⟩ := jpu_some h
            replace hf := jfr_tr hf (jfr_up hm66 rfl)
            refine jem (p := (m66 109 20) = x9) (fun c => ?_) (fun c => ?_)
            · rw [if_pos c] at h
              refine jem (p := x9 = (59 : Int32)) (fun c => ?_) (fun c => ?_)
              · rw [if_pos c] at h
                cases h
                exact hf
              · rw [if_neg c] at h
                refine jem (p := x9 = (45 : Int32)) (fun c => ?_) (fun c => ?_)
                · rw [if_pos c] at h
                  cases h
                  exact hf
                · rw [if_neg c] at h
                  refine jem (p := x9 = (43 : Int32)) (fun c => ?_) (fun c => ?_)
                  · rw [if_pos c] at h
                    cases h
                    exact hf
                  · rw [if_neg c] at h
                    refine jem (p := x9 = (40 : Int32)) (fun c => ?_) (fun c => ?_)
                    · rw [if_pos c] at h
                      cases h
                      exact hf
                    · rw [if_neg c] at h
                      refine jem (p := x9 = (41 : Int32)) (fun c => ?_) (fun c => ?_)
                      · rw [if_pos c] at h
                        cases h
                        exact hf
                      · rw [if_neg c] at h
                        refine jem (p := x9 = (60 : Int32)) (fun c => ?_) (fun c => ?_)
                        · rw [if_pos c] at h
                          cases h
                          exact hf
                        · rw [if_neg c] at h
                          refine jem (p := x9 = (61 : Int32)) (fun c => ?_) (fun c => ?_)
                          · rw [if_pos c] at h
                            cases h
                            exact hf
                          · rw [if_neg c] at h
                            refine jem (p := x9 = (62 : Int32)) (fun c => ?_) (fun c => ?_)
                            · rw [if_pos c] at h
                              cases h
                              exact hf
                            · rw [if_neg c] at h
                              obtain ⟨m67, hm67, h⟩ := jpu_some h
                              replace hf := jfr_tr hf (jfr_up hm67 rfl)
                              cases h
                              exact hf
            · rw [if_neg c] at h
              obtain ⟨m68, hm68, h⟩ := jpu_some h
              replace hf := jfr_tr hf (jfr_up hm68 rfl)
              cases h
              exact hf
      · rw [if_neg c] at h
        obtain ⟨m69, hm69, h⟩ := jpu_some h
        replace hf := jfr_tr hf (jfr_up hm69 rfl)
        obtain ⟨m70, hm70, h⟩ := jpu_some h
        replace hf := jfr_tr hf (jfr_up hm70 rfl)
        refine fr_lp_M_next_128 _ ?_ _ m70 _ hf h
        intro m81 r hf h
        cases h
        exact hf
    · rw [if_neg c] at h
      refine fr_lp_M_next_62 _ ?_ _ m12 _ hf h
      intro m87 r hf h
      obtain ⟨x88, m89, zm89, h⟩ := jbd_some h
      replace hf := jfr_tr hf (jfr_sub (W := W_M_word) rfl (fr_M_word zm89))
      obtain ⟨m90, hm90, h⟩ := jpu_some h
      replace hf := jfr_tr hf (jfr_up hm90 rfl)
      refine jem_ne (p := (m90 109 20) = (-1 : Int32)) (fun c => ?_) (fun c => ?_)
      · rw [if_neg c] at h
        obtain ⟨m91, hm91, h⟩ := jpu_some h
        replace hf := jfr_tr hf (jfr_up hm91 rfl)
        cases h
        exact hf
      · rw [if_pos c] at h
        obtain ⟨m92, hm92, h⟩ := jpu_some h
        replace hf := jfr_tr hf (jfr_up hm92 rfl)
        cases h
        exact hf
  · rw [if_pos c] at h
    obtain ⟨m93, hm93, h⟩ := jpu_some h
    replace hf := jfr_tr hf (jfr_up hm93 rfl)
    cases h
    exact hf

def W_M_wrong : List (Nat × Nat) := [(109, 22), (109, 23)]
theorem fr_M_wrong {v1 : Int32} {m : jMem} {r : (Unit × jMem)} (h : f_M_wrong v1 m = some r) : jfr W_M_wrong m r.2 := by
  unfold f_M_wrong at h
  have hf : jfr W_M_wrong m m := jfr_rf
  refine jem (p := (m 109 21) = 0) (fun c => ?_) (fun c => ?_)
  · rw [if_pos c] at h
    obtain ⟨m1, hm1, h⟩ := jpu_some h
    replace hf := jfr_tr hf (jfr_up hm1 rfl)
    obtain ⟨m2, hm2, h⟩ := jpu_some h
    replace hf := jfr_tr hf (jfr_up hm2 rfl)
    cases h
    exact hf
  · rw [if_neg c] at h
    cases h
    exact hf

def W_M_isSign : List (Nat × Nat) := []
theorem fr_M_isSign {v1 : Int32} {m : jMem} {r : (Int32 × jMem)} (h : f_M_isSign v1 m = some r) : jfr W_M_isSign m r.2 := by
  unfold f_M_isSign at h
  have hf : jfr W_M_isSign m m := jfr_rf
  refine jem_ne (p := (m 109 19) = (2 : Int32)) (fun c => ?_) (fun c => ?_)
  · rw [if_neg c] at h
    cases h
    exact hf
  · rw [if_pos c] at h
    refine jem_ne (p := (m 109 20) = v1) (fun c => ?_) (fun c => ?_)
    · rw [if_neg c] at h
      cases h
      exact hf
    · rw [if_pos c] at h
      cases h
      exact hf

def W_M_writers : List (Nat × Nat) := [(109, 18), (109, 19), (109, 20), (109, 21), (109, 22), (109, 23)]
theorem fr_lp_M_writers_2 {m0 : jMem} (v1 : Int32) (k70 : jMem → Option (Int32 × jMem)) (k88 : Int32 → jMem → Option (Int32 × jMem))
    (hk70 : ∀ (m : jMem) (r : (Int32 × jMem)), jfr W_M_writers m0 m → k70 m = some r → jfr W_M_writers m0 r.2)
    (hk88 : ∀ (v2 : Int32) (m : jMem) (r : (Int32 × jMem)), jfr W_M_writers m0 m → k88 v2 m = some r → jfr W_M_writers m0 r.2) : ∀ (n : Nat) (v2 : Int32) (m : jMem) (r : (Int32 × jMem)), jfr W_M_writers m0 m → lp_M_writers_2 v1 k70 k88 n v2 m = some r → jfr W_M_writers m0 r.2 := by
  intro n
  induction n with
  | zero => intro v2 m r hf h; unfold lp_M_writers_2 at h; cases h
  | succ n ih =>
    intro v2 m r hf h
    unfold lp_M_writers_2 at h
    refine jem_ne (p := (m 109 21) = 0) (fun c => ?_) (fun c => ?_)
    · rw [if_neg c] at h
      exact hk88 v2 m _ hf h
    · rw [if_pos c] at h
      refine jem_ne (p := (m 109 19) = (1 : Int32)) (fun c => ?_) (fun c => ?_)
      · rw [if_neg c] at h
        exact hk88 v2 m _ hf h
      · rw [if_pos c] at h
        refine jem (p := (m 109 20) < (6 : Int32)) (fun c => ?_) (fun c => ?_)
        · rw [if_pos c] at h
          refine jem (p := ((v1 >>> ((m 109 20) &&& 31)) &&& (1 : Int32)) = (1 : Int32)) (fun c => ?_) (fun c => ?_)
          · rw [if_pos c] at h
            obtain ⟨u1, m2, zm2, h⟩ := jbd_some h
            replace hf := jfr_tr hf (jfr_sub (W := W_M_wrong) rfl (fr_M_wrong zm2))
            refine jem (p := (m2 109 21) = 0) (fun c => ?_) (fun c => ?_)
            · rw [if_pos c] at h
              obtain ⟨u3, m4, zm4, h⟩ := jbd_some h
              replace hf := jfr_tr hf (jfr_sub (W := W_M_next) rfl (fr_M_next zm4))
              exact ih (v2 ||| ((1 : Int32) <<< ((m2 109 20) &&& 31))) m4 _ hf h
            · rw [if_neg c] at h
              exact hk70  m2 _ hf h
          · rw [if_neg c] at h
            refine jem_ne (p := ((v2 >>> ((m 109 20) &&& 31)) &&& (1 : Int32)) = (1 : Int32)) (fun c => ?_) (fun c => ?_)
            · rw [if_neg c] at h
              refine jem (p := (m 109 21) = 0) (fun c => ?_) (fun c => ?_)
              · rw [if_pos c] at h
                obtain ⟨u5, m6, zm6, h⟩ := jbd_some h
                replace hf := jfr_tr hf (jfr_sub (W := W_M_next) rfl (fr_M_next zm6))
                exact ih (v2 ||| ((1 : Int32) <<< ((m 109 20) &&& 31))) m6 _ hf h
              · rw [if_neg c] at h
                exact hk70  m _ hf h
            · rw [if_pos c] at h
              obtain ⟨u7, m8, zm8, h⟩ := jbd_some h
              replace hf := jfr_tr hf (jfr_sub (W := W_M_wrong) rfl (fr_M_wrong zm8))
              refine jem (p := (m8 109 21) = 0) (fun c => ?_) (fun c => ?_)
              · rw [if_pos c] at h
                obtain ⟨u9, m10, zm10, h⟩ := jbd_some h
                replace hf := jfr_tr hf (jfr_sub (W := W_M_next) rfl (fr_M_next zm10))
                exact ih (v2 ||| ((1 : Int32) <<< ((m8 109 20) &&& 31))) m10 _ hf h
              · rw [if_neg c] at h
                exact hk70  m8 _ hf h
        · rw [if_neg c] at h
          obtain ⟨u11, m12, zm12, h⟩ := jbd_some h
          replace hf := jfr_tr hf (jfr_sub (W := W_M_wrong) rfl (fr_M_wrong zm12))
          refine jem (p := (m12 109 21) = 0) (fun c => ?_) (fun c => ?_)
          · rw [if_pos c] at h
            obtain ⟨u13, m14, zm14, h⟩ := jbd_some h
            replace hf := jfr_tr hf (jfr_sub (W := W_M_next) rfl (fr_M_next zm14))
            exact ih (v2 ||| ((1 : Int32) <<< ((m12 109 20) &&& 31))) m14 _ hf h
          · rw [if_neg c] at h
            exact hk70  m12 _ hf h
theorem fr_M_writers {v1 : Int32} {m : jMem} {r : (Int32 × jMem)} (h : f_M_writers v1 m = some r) : jfr W_M_writers m r.2 := by
  unfold f_M_writers at h
  have hf : jfr W_M_writers m m := jfr_rf
  refine fr_lp_M_writers_2 v1 _ _ ?_ ?_ _ (0 : Int32) m _ hf h
  · intro m15 r hf h
    cases h
    exact hf
  · intro w17 m16 r hf h
    cases h
    exact hf

def W_M_bind : List (Nat × Nat) := []
theorem fr_M_bind {v0 : Int32} {m : jMem} {r : (Int32 × jMem)} (h : f_M_bind v0 m = some r) : jfr W_M_bind m r.2 := by
  unfold f_M_bind at h
  have hf : jfr W_M_bind m m := jfr_rf
  by_cases c43 : v0 = (43 : Int32)
  · rw [if_pos c43] at h
    cases h
    exact hf
  · rw [if_neg c43] at h
    by_cases c45 : v0 = (45 : Int32)
    · rw [if_pos c45] at h
      cases h
      exact hf
    · rw [if_neg c45] at h
      by_cases c60 : v0 = (60 : Int32)
      · rw [if_pos c60] at h
        cases h
        exact hf
      · rw [if_neg c60] at h
        by_cases c61 : v0 = (61 : Int32)
        · rw [if_pos c61] at h
          cases h
          exact hf
        · rw [if_neg c61] at h
          by_cases c62 : v0 = (62 : Int32)
          · rw [if_pos c62] at h
            cases h
            exact hf
          · rw [if_neg c62] at h
            by_cases c256 : v0 = (256 : Int32)
            · rw [if_pos c256] at h
              cases h
              exact hf
            · rw [if_neg c256] at h
              by_cases c257 : v0 = (257 : Int32)
              · rw [if_pos c257] at h
                cases h
                exact hf
              · rw [if_neg c257] at h
                by_cases c258 : v0 = (258 : Int32)
                · rw [if_pos c258] at h
                  cases h
                  exact hf
                · rw [if_neg c258] at h
                  by_cases c260 : v0 = (260 : Int32)
                  · rw [if_pos c260] at h
                    cases h
                    exact hf
                  · rw [if_neg c260] at h
                    by_cases c261 : v0 = (261 : Int32)
                    · rw [if_pos c261] at h
                      cases h
                      exact hf
                    · rw [if_neg c261] at h
                      by_cases c262 : v0 = (262 : Int32)
                      · rw [if_pos c262] at h
                        cases h
                        exact hf
                      · rw [if_neg c262] at h
                        cases h
                        exact hf

def W_M_between : List (Nat × Nat) := []
theorem fr_M_between {m : jMem} {r : (Int32 × jMem)} (h : f_M_between m = some r) : jfr W_M_between m r.2 := by
  unfold f_M_between at h
  have hf : jfr W_M_between m m := jfr_rf
  refine jem_ne (p := (m 109 19) = 0) (fun c => ?_) (fun c => ?_)
  · rw [if_neg c] at h
    refine jem_ne (p := (m 109 19) = (2 : Int32)) (fun c => ?_) (fun c => ?_)
    · rw [if_neg c] at h
      cases h
      exact hf
    · rw [if_pos c] at h
      refine jem (p := (m 109 20) = (40 : Int32)) (fun c => ?_) (fun c => ?_)
      · rw [if_pos c] at h
        cases h
        exact hf
      · rw [if_neg c] at h
        refine jem (p := (m 109 20) = (41 : Int32)) (fun c => ?_) (fun c => ?_)
        · rw [if_pos c] at h
          cases h
          exact hf
        · rw [if_neg c] at h
          obtain ⟨x1, m2, zm2, h⟩ := jbd_some h
          replace hf := jfr_tr hf (jfr_sub (W := W_M_bind) rfl (fr_M_bind zm2))
          refine jem (p := x1 ≤ 0) (fun c => ?_) (fun c => ?_)
          · rw [if_pos c] at h
            cases h
            exact hf
          · rw [if_neg c] at h
            cases h
            exact hf
  · rw [if_pos c] at h
    refine jem_ne (p := (m 109 20) = (9 : Int32)) (fun c => ?_) (fun c => ?_)
    · rw [if_neg c] at h
      refine jem_ne (p := (m 109 20) = (10 : Int32)) (fun c => ?_) (fun c => ?_)
      · rw [if_neg c] at h
        cases h
        exact hf
      · rw [if_pos c] at h
        cases h
        exact hf
    · rw [if_pos c] at h
      cases h
      exact hf

def W_M_knot : List (Nat × Nat) := [(109, 8), (109, 22), (109, 23)]
theorem fr_M_knot {m : jMem} {r : (Unit × jMem)} (h : f_M_knot m = some r) : jfr W_M_knot m r.2 := by
  unfold f_M_knot at h
  have hf : jfr W_M_knot m m := jfr_rf
  refine jem_ne (p := (m 109 7) = (64 : Int32)) (fun c => ?_) (fun c => ?_)
  · rw [if_neg c] at h
    obtain ⟨m1, hm1, h⟩ := jpu_some h
    replace hf := jfr_tr hf (jfr_up hm1 rfl)
    cases h
    exact hf
  · rw [if_pos c] at h
    obtain ⟨u2, m3, zm3, h⟩ := jbd_some h
    replace hf := jfr_tr hf (jfr_sub (W := W_M_wrong) rfl (fr_M_wrong zm3))
    cases h
    exact hf

def W_M_out : List (Nat × Nat) := [(109, 6), (111, 0), (112, 0)]
theorem fr_M_out {v1 : Int32} {v2 : Int32} {m : jMem} {r : (Unit × jMem)} (h : f_M_out v1 v2 m = some r) : jfr W_M_out m r.2 := by
  unfold f_M_out at h
  have hf : jfr W_M_out m m := jfr_rf
  obtain ⟨m1, hm1, g, h⟩ := jst_some h
  replace hf := jfr_tr hf (jfr_ua hm1 rfl)
  obtain ⟨m2, hm2, g, h⟩ := jst_some h
  replace hf := jfr_tr hf (jfr_ua hm2 rfl)
  obtain ⟨m3, hm3, h⟩ := jpu_some h
  replace hf := jfr_tr hf (jfr_up hm3 rfl)
  cases h
  exact hf

def W_M_awaits : List (Nat × Nat) := [(109, 18), (109, 19), (109, 20), (109, 21), (109, 27), (117, 0)]
theorem fr_M_awaits {v1 : Int32} {m : jMem} {r : (Unit × jMem)} (h : f_M_awaits v1 m = some r) : jfr W_M_awaits m r.2 := by
  unfold f_M_awaits at h
  have hf : jfr W_M_awaits m m := jfr_rf
  obtain ⟨m1, hm1, g, h⟩ := jst_some h
  replace hf := jfr_tr hf (jfr_ua hm1 rfl)
  obtain ⟨m2, hm2, h⟩ := jpu_some h
  replace hf := jfr_tr hf (jfr_up hm2 rfl)
  obtain ⟨u3, m4, zm4, h⟩ := jbd_some h
  replace hf := jfr_tr hf (jfr_sub (W := W_M_next) rfl (fr_M_next zm4))
  cases h
  exact hf

def W_M_operand : List (Nat × Nat) := [(109, 6), (109, 8), (109, 18), (109, 19), (109, 20), (109, 21), (109, 22), (109, 23), (109, 27), (109, 28), (111, 0), (112, 0), (117, 0)]
theorem fr_M_operand {m : jMem} {r : (Int32 × jMem)} (h : f_M_operand m = some r) : jfr W_M_operand m r.2 := by
  unfold f_M_operand at h
  have hf : jfr W_M_operand m m := jfr_rf
  refine jem_ne (p := (m 109 19) = (1 : Int32)) (fun c => ?_) (fun c => ?_)
  · rw [if_neg c] at h
    refine jem_ne (p := (m 109 19) = 0) (fun c => ?_) (fun c => ?_)
    · rw [if_neg c] at h
      obtain ⟨x1, m2, zm2, h⟩ := jbd_some h
      replace hf := jfr_tr hf (jfr_sub (W := W_M_isSign) rfl (fr_M_isSign zm2))
      refine jem (p := x1 = 0) (fun c => ?_) (fun c => ?_)
      · rw [if_pos c] at h
        refine jem (p := (m2 109 26) = 0) (fun c => ?_) (fun c => ?_)
        · rw [if_pos c] at h
          refine jem_ne (p := (m2 109 19) = 0) (fun c => ?_) (fun c => ?_)
          · rw [if_neg c] at h
            obtain ⟨u3, m4, zm4, h⟩ := jbd_some h
            replace hf := jfr_tr hf (jfr_sub (W := W_M_wrong) rfl (fr_M_wrong zm4))
            cases h
            exact hf
          · rw [if_pos c] at h
            refine jem_ne (p := (m2 109 20) = (11 : Int32)) (fun c => ?_) (fun c => ?_)
            · rw [if_neg c] at h
              obtain ⟨u5, m6, zm6, h⟩ := jbd_some h
              replace hf := jfr_tr hf (jfr_sub (W := W_M_wrong) rfl (fr_M_wrong zm6))
              cases h
              exact hf
            · rw [if_pos c] at h
              refine jem_ne (p := (1 : Int32) = 0) (fun c => ?_) (fun c => ?_)
              · rw [if_neg c] at h
                obtain ⟨u7, m8, zm8, h⟩ := jbd_some h
                replace hf := jfr_tr hf (jfr_sub (W := W_M_knot) rfl (fr_M_knot zm8))
                refine jem_ne (p := (m8 109 21) = 0) (fun c => ?_) (fun c => ?_)
                · rw [if_neg c] at h
                  cases h
                  exact hf
                · rw [if_pos c] at h
                  obtain ⟨u9, m10, zm10, h⟩ := jbd_some h
                  replace hf := jfr_tr hf (jfr_sub (W := W_M_awaits) rfl (fr_M_awaits zm10))
                  cases h
                  exact hf
              · rw [if_pos c] at h
                obtain ⟨u11, m12, zm12, h⟩ := jbd_some h
                replace hf := jfr_tr hf (jfr_sub (W := W_M_wrong) rfl (fr_M_wrong zm12))
                cases h
                exact hf
        · rw [if_neg c] at h
          obtain ⟨x13, ex13, g, h⟩ := jld_some h
          obtain ⟨x14, m15, zm15, h⟩ := jbd_some h
          replace hf := jfr_tr hf (jfr_sub (W := W_M_bind) rfl (fr_M_bind zm15))
          refine jem (p := (4 : Int32) ≤ x14) (fun c => ?_) (fun c => ?_)
          · rw [if_pos c] at h
            refine jem_ne (p := (m15 109 19) = 0) (fun c => ?_) (fun c => ?_)
            · rw [if_neg c] at h
              obtain ⟨u16, m17, zm17, h⟩ := jbd_some h
              replace hf := jfr_tr hf (jfr_sub (W := W_M_wrong) rfl (fr_M_wrong zm17))
              cases h
              exact hf
            · rw [if_pos c] at h
              refine jem_ne (p := (m15 109 20) = (11 : Int32)) (fun c => ?_) (fun c => ?_)
              · rw [if_neg c] at h
                obtain ⟨u18, m19, zm19, h⟩ := jbd_some h
                replace hf := jfr_tr hf (jfr_sub (W := W_M_wrong) rfl (fr_M_wrong zm19))
                cases h
                exact hf
              · rw [if_pos c] at h
                refine jem_ne (p := (0 : Int32) = 0) (fun c => ?_) (fun c => ?_)
                · rw [if_neg c] at h
                  obtain ⟨u20, m21, zm21, h⟩ := jbd_some h
                  replace hf := jfr_tr hf (jfr_sub (W := W_M_knot) rfl (fr_M_knot zm21))
                  refine jem_ne (p := (m21 109 21) = 0) (fun c => ?_) (fun c => ?_)
                  · rw [if_neg c] at h
                    cases h
                    exact hf
                  · rw [if_pos c] at h
                    obtain ⟨u22, m23, zm23, h⟩ := jbd_some h
                    replace hf := jfr_tr hf (jfr_sub (W := W_M_awaits) rfl (fr_M_awaits zm23))
                    cases h
                    exact hf
                · rw [if_pos c] at h
                  obtain ⟨u24, m25, zm25, h⟩ := jbd_some h
                  replace hf := jfr_tr hf (jfr_sub (W := W_M_wrong) rfl (fr_M_wrong zm25))
                  cases h
                  exact hf
          · rw [if_neg c] at h
            refine jem_ne (p := (m15 109 19) = 0) (fun c => ?_) (fun c => ?_)
            · rw [if_neg c] at h
              obtain ⟨u26, m27, zm27, h⟩ := jbd_some h
              replace hf := jfr_tr hf (jfr_sub (W := W_M_wrong) rfl (fr_M_wrong zm27))
              cases h
              exact hf
            · rw [if_pos c] at h
              refine jem_ne (p := (m15 109 20) = (11 : Int32)) (fun c => ?_) (fun c => ?_)
              · rw [if_neg c] at h
                obtain ⟨u28, m29, zm29, h⟩ := jbd_some h
                replace hf := jfr_tr hf (jfr_sub (W := W_M_wrong) rfl (fr_M_wrong zm29))
                cases h
                exact hf
              · rw [if_pos c] at h
                refine jem_ne (p := (1 : Int32) = 0) (fun c => ?_) (fun c => ?_)
                · rw [if_neg c] at h
                  obtain ⟨u30, m31, zm31, h⟩ := jbd_some h
                  replace hf := jfr_tr hf (jfr_sub (W := W_M_knot) rfl (fr_M_knot zm31))
                  refine jem_ne (p := (m31 109 21) = 0) (fun c => ?_) (fun c => ?_)
                  · rw [if_neg c] at h
                    cases h
                    exact hf
                  · rw [if_pos c] at h
                    obtain ⟨u32, m33, zm33, h⟩ := jbd_some h
                    replace hf := jfr_tr hf (jfr_sub (W := W_M_awaits) rfl (fr_M_awaits zm33))
                    cases h
                    exact hf
                · rw [if_pos c] at h
                  obtain ⟨u34, m35, zm35, h⟩ := jbd_some h
                  replace hf := jfr_tr hf (jfr_sub (W := W_M_wrong) rfl (fr_M_wrong zm35))
                  cases h
                  exact hf
      · rw [if_neg c] at h
        refine jem_ne (p := (m2 109 27) = (8 : Int32)) (fun c => ?_) (fun c => ?_)
        · rw [if_neg c] at h
          refine jem (p := (m2 109 21) = 0) (fun c => ?_) (fun c => ?_)
          · rw [if_pos c] at h
            obtain ⟨m36, hm36, h⟩ := jpu_some h
            replace hf := jfr_tr hf (jfr_up hm36 rfl)
            obtain ⟨u37, m38, zm38, h⟩ := jbd_some h
            replace hf := jfr_tr hf (jfr_sub (W := W_M_awaits) rfl (fr_M_awaits zm38))
            cases h
            exact hf
          · rw [if_neg c] at h
            cases h
            exact hf
        · rw [if_pos c] at h
          obtain ⟨u39, m40, zm40, h⟩ := jbd_some h
          replace hf := jfr_tr hf (jfr_sub (W := W_M_wrong) rfl (fr_M_wrong zm40))
          refine jem (p := (m40 109 21) = 0) (fun c => ?_) (fun c => ?_)
          · rw [if_pos c] at h
            obtain ⟨m41, hm41, h⟩ := jpu_some h
            replace hf := jfr_tr hf (jfr_up hm41 rfl)
            obtain ⟨u42, m43, zm43, h⟩ := jbd_some h
            replace hf := jfr_tr hf (jfr_sub (W := W_M_awaits) rfl (fr_M_awaits zm43))
            cases h
            exact hf
          · rw [if_neg c] at h
            cases h
            exact hf
    · rw [if_pos c] at h
      refine jem (p := (m 109 20) < (12 : Int32)) (fun c => ?_) (fun c => ?_)
      · rw [if_pos c] at h
        obtain ⟨x44, m45, zm45, h⟩ := jbd_some h
        replace hf := jfr_tr hf (jfr_sub (W := W_M_isSign) rfl (fr_M_isSign zm45))
        refine jem (p := x44 = 0) (fun c => ?_) (fun c => ?_)
        · rw [if_pos c] at h
          refine jem (p := (m45 109 26) = 0) (fun c => ?_) (fun c => ?_)
          · rw [if_pos c] at h
            refine jem_ne (p := (m45 109 19) = 0) (fun c => ?_) (fun c => ?_)
            · rw [if_neg c] at h
              obtain ⟨u46, m47, zm47, h⟩ := jbd_some h
              replace hf := jfr_tr hf (jfr_sub (W := W_M_wrong) rfl (fr_M_wrong zm47))
              cases h
              exact hf
            · rw [if_pos c] at h
              refine jem_ne (p := (m45 109 20) = (11 : Int32)) (fun c => ?_) (fun c => ?_)
              · rw [if_neg c] at h
                obtain ⟨u48, m49, zm49, h⟩ := jbd_some h
                replace hf := jfr_tr hf (jfr_sub (W := W_M_wrong) rfl (fr_M_wrong zm49))
                cases h
                exact hf
              · rw [if_pos c] at h
                refine jem_ne (p := (1 : Int32) = 0) (fun c => ?_) (fun c => ?_)
                · rw [if_neg c] at h
                  obtain ⟨u50, m51, zm51, h⟩ := jbd_some h
                  replace hf := jfr_tr hf (jfr_sub (W := W_M_knot) rfl (fr_M_knot zm51))
                  refine jem_ne (p := (m51 109 21) = 0) (fun c => ?_) (fun c => ?_)
                  · rw [if_neg c] at h
                    cases h
                    exact hf
                  · rw [if_pos c] at h
                    obtain ⟨u52, m53, zm53, h⟩ := jbd_some h
                    replace hf := jfr_tr hf (jfr_sub (W := W_M_awaits) rfl (fr_M_awaits zm53))
                    cases h
                    exact hf
                · rw [if_pos c] at h
                  obtain ⟨u54, m55, zm55, h⟩ := jbd_some h
                  replace hf := jfr_tr hf (jfr_sub (W := W_M_wrong) rfl (fr_M_wrong zm55))
                  cases h
                  exact hf
          · rw [if_neg c] at h
            obtain ⟨x56, ex56, g, h⟩ := jld_some h
            obtain ⟨x57, m58, zm58, h⟩ := jbd_some h
            replace hf := jfr_tr hf (jfr_sub (W := W_M_bind) rfl (fr_M_bind zm58))
            refine jem (p := (4 : Int32) ≤ x57) (fun c => ?_) (fun c => ?_)
            · rw [if_pos c] at h
              refine jem_ne (p := (m58 109 19) = 0) (fun c => ?_) (fun c => ?_)
              · rw [if_neg c] at h
                obtain ⟨u59, m60, zm60, h⟩ := jbd_some h
                replace hf := jfr_tr hf (jfr_sub (W := W_M_wrong) rfl (fr_M_wrong zm60))
                cases h
                exact hf
              · rw [if_pos c] at h
                refine jem_ne (p := (m58 109 20) = (11 : Int32)) (fun c => ?_) (fun c => ?_)
                · rw [if_neg c] at h
                  obtain ⟨u61, m62, zm62, h⟩ := jbd_some h
                  replace hf := jfr_tr hf (jfr_sub (W := W_M_wrong) rfl (fr_M_wrong zm62))
                  cases h
                  exact hf
                · rw [if_pos c] at h
                  refine jem_ne (p := (0 : Int32) = 0) (fun c => ?_) (fun c => ?_)
                  · rw [if_neg c] at h
                    obtain ⟨u63, m64, zm64, h⟩ := jbd_some h
                    replace hf := jfr_tr hf (jfr_sub (W := W_M_knot) rfl (fr_M_knot zm64))
                    refine jem_ne (p := (m64 109 21) = 0) (fun c => ?_) (fun c => ?_)
                    · rw [if_neg c] at h
                      cases h
                      exact hf
                    · rw [if_pos c] at h
                      obtain ⟨u65, m66, zm66, h⟩ := jbd_some h
                      replace hf := jfr_tr hf (jfr_sub (W := W_M_awaits) rfl (fr_M_awaits zm66))
                      cases h
                      exact hf
                  · rw [if_pos c] at h
                    obtain ⟨u67, m68, zm68, h⟩ := jbd_some h
                    replace hf := jfr_tr hf (jfr_sub (W := W_M_wrong) rfl (fr_M_wrong zm68))
                    cases h
                    exact hf
            · rw [if_neg c] at h
              refine jem_ne (p := (m58 109 19) = 0) (fun c => ?_) (fun c => ?_)
              · rw [if_neg c] at h
                obtain ⟨u69, m70, zm70, h⟩ := jbd_some h
                replace hf := jfr_tr hf (jfr_sub (W := W_M_wrong) rfl (fr_M_wrong zm70))
                cases h
                exact hf
              · rw [if_pos c] at h
                refine jem_ne (p := (m58 109 20) = (11 : Int32)) (fun c => ?_) (fun c => ?_)
                · rw [if_neg c] at h
                  obtain ⟨u71, m72, zm72, h⟩ := jbd_some h
                  replace hf := jfr_tr hf (jfr_sub (W := W_M_wrong) rfl (fr_M_wrong zm72))
                  cases h
                  exact hf
                · rw [if_pos c] at h
                  refine jem_ne (p := (1 : Int32) = 0) (fun c => ?_) (fun c => ?_)
                  · rw [if_neg c] at h
                    obtain ⟨u73, m74, zm74, h⟩ := jbd_some h
                    replace hf := jfr_tr hf (jfr_sub (W := W_M_knot) rfl (fr_M_knot zm74))
                    refine jem_ne (p := (m74 109 21) = 0) (fun c => ?_) (fun c => ?_)
                    · rw [if_neg c] at h
                      cases h
                      exact hf
                    · rw [if_pos c] at h
                      obtain ⟨u75, m76, zm76, h⟩ := jbd_some h
                      replace hf := jfr_tr hf (jfr_sub (W := W_M_awaits) rfl (fr_M_awaits zm76))
                      cases h
                      exact hf
                  · rw [if_pos c] at h
                    obtain ⟨u77, m78, zm78, h⟩ := jbd_some h
                    replace hf := jfr_tr hf (jfr_sub (W := W_M_wrong) rfl (fr_M_wrong zm78))
                    cases h
                    exact hf
        · rw [if_neg c] at h
          refine jem_ne (p := (m45 109 27) = (8 : Int32)) (fun c => ?_) (fun c => ?_)
          · rw [if_neg c] at h
            refine jem (p := (m45 109 21) = 0) (fun c => ?_) (fun c => ?_)
            · rw [if_pos c] at h
              obtain ⟨m79, hm79, h⟩ := jpu_some h
              replace hf := jfr_tr hf (jfr_up hm79 rfl)
              obtain ⟨u80, m81, zm81, h⟩ := jbd_some h
              replace hf := jfr_tr hf (jfr_sub (W := W_M_awaits) rfl (fr_M_awaits zm81))
              cases h
              exact hf
            · rw [if_neg c] at h
              cases h
              exact hf
          · rw [if_pos c] at h
            obtain ⟨u82, m83, zm83, h⟩ := jbd_some h
            replace hf := jfr_tr hf (jfr_sub (W := W_M_wrong) rfl (fr_M_wrong zm83))
            refine jem (p := (m83 109 21) = 0) (fun c => ?_) (fun c => ?_)
            · rw [if_pos c] at h
              obtain ⟨m84, hm84, h⟩ := jpu_some h
              replace hf := jfr_tr hf (jfr_up hm84 rfl)
              obtain ⟨u85, m86, zm86, h⟩ := jbd_some h
              replace hf := jfr_tr hf (jfr_sub (W := W_M_awaits) rfl (fr_M_awaits zm86))
              cases h
              exact hf
            · rw [if_neg c] at h
              cases h
              exact hf
      · rw [if_neg c] at h
        obtain ⟨u87, m88, zm88, h⟩ := jbd_some h
        replace hf := jfr_tr hf (jfr_sub (W := W_M_knot) rfl (fr_M_knot zm88))
        refine jem (p := (m88 109 21) = 0) (fun c => ?_) (fun c => ?_)
        · rw [if_pos c] at h
          obtain ⟨u89, m90, zm90, h⟩ := jbd_some h
          replace hf := jfr_tr hf (jfr_sub (W := W_M_out) rfl (fr_M_out zm90))
          obtain ⟨u91, m92, zm92, h⟩ := jbd_some h
          replace hf := jfr_tr hf (jfr_sub (W := W_M_next) rfl (fr_M_next zm92))
          cases h
          exact hf
        · rw [if_neg c] at h
          cases h
          exact hf
  · rw [if_pos c] at h
    refine jem (p := (m 109 20) ≤ (999 : Int32)) (fun c => ?_) (fun c => ?_)
    · rw [if_pos c] at h
      refine jem_ne (p := (m 109 21) = 0) (fun c => ?_) (fun c => ?_)
      · rw [if_neg c] at h
        refine jem (p := (m 109 21) = 0) (fun c => ?_) (fun c => ?_)
        · rw [if_pos c] at h
          obtain ⟨u93, m94, zm94, h⟩ := jbd_some h
          replace hf := jfr_tr hf (jfr_sub (W := W_M_out) rfl (fr_M_out zm94))
          obtain ⟨u95, m96, zm96, h⟩ := jbd_some h
          replace hf := jfr_tr hf (jfr_sub (W := W_M_next) rfl (fr_M_next zm96))
          cases h
          exact hf
        · rw [if_neg c] at h
          cases h
          exact hf
      · rw [if_pos c] at h
        obtain ⟨u97, m98, zm98, h⟩ := jbd_some h
        replace hf := jfr_tr hf (jfr_sub (W := W_M_knot) rfl (fr_M_knot zm98))
        refine jem (p := (m98 109 21) = 0) (fun c => ?_) (fun c => ?_)
        · rw [if_pos c] at h
          obtain ⟨u99, m100, zm100, h⟩ := jbd_some h
          replace hf := jfr_tr hf (jfr_sub (W := W_M_out) rfl (fr_M_out zm100))
          obtain ⟨u101, m102, zm102, h⟩ := jbd_some h
          replace hf := jfr_tr hf (jfr_sub (W := W_M_next) rfl (fr_M_next zm102))
          cases h
          exact hf
        · rw [if_neg c] at h
          cases h
          exact hf
    · rw [if_neg c] at h
      obtain ⟨u103, m104, zm104, h⟩ := jbd_some h
      replace hf := jfr_tr hf (jfr_sub (W := W_M_wrong) rfl (fr_M_wrong zm104))
      refine jem_ne (p := (m104 109 21) = 0) (fun c => ?_) (fun c => ?_)
      · rw [if_neg c] at h
        refine jem (p := (m104 109 21) = 0) (fun c => ?_) (fun c => ?_)
        · rw [if_pos c] at h
          obtain ⟨u105, m106, zm106, h⟩ := jbd_some h
          replace hf := jfr_tr hf (jfr_sub (W := W_M_out) rfl (fr_M_out zm106))
          obtain ⟨u107, m108, zm108, h⟩ := jbd_some h
          replace hf := jfr_tr hf (jfr_sub (W := W_M_next) rfl (fr_M_next zm108))
          cases h
          exact hf
        · rw [if_neg c] at h
          cases h
          exact hf
      · rw [if_pos c] at h
        obtain ⟨u109, m110, zm110, h⟩ := jbd_some h
        replace hf := jfr_tr hf (jfr_sub (W := W_M_knot) rfl (fr_M_knot zm110))
        refine jem (p := (m110 109 21) = 0) (fun c => ?_) (fun c => ?_)
        · rw [if_pos c] at h
          obtain ⟨u111, m112, zm112, h⟩ := jbd_some h
          replace hf := jfr_tr hf (jfr_sub (W := W_M_out) rfl (fr_M_out zm112))
          obtain ⟨u113, m114, zm114, h⟩ := jbd_some h
          replace hf := jfr_tr hf (jfr_sub (W := W_M_next) rfl (fr_M_next zm114))
          cases h
          exact hf
        · rw [if_neg c] at h
          cases h
          exact hf

def W_M_pour : List (Nat × Nat) := [(109, 6), (109, 27), (111, 0), (112, 0)]
theorem fr_lp_M_pour_0 {m0 : jMem} (v1 : Int32) (k52 : jMem → Option (Unit × jMem))
    (hk52 : ∀ (m : jMem) (r : (Unit × jMem)), jfr W_M_pour m0 m → k52 m = some r → jfr W_M_pour m0 r.2) : ∀ (n : Nat) (m : jMem) (r : (Unit × jMem)), jfr W_M_pour m0 m → lp_M_pour_0 v1 k52 n m = some r → jfr W_M_pour m0 r.2 := by
  intro n
  induction n with
  | zero => intro m r hf h; unfold lp_M_pour_0 at h; cases h
  | succ n ih =>
    intro m r hf h
    unfold lp_M_pour_0 at h
    refine jem (p := (m 109 26) ≤ 0) (fun c => ?_) (fun c => ?_)
    · rw [if_pos c] at h
      exact hk52  m _ hf h
    · rw [if_neg c] at h
      obtain ⟨x1, ex1, g, h⟩ := jld_some h
      obtain ⟨x2, m3, zm3, h⟩ := jbd_some h
      replace hf := jfr_tr hf (jfr_sub (W := W_M_bind) rfl (fr_M_bind zm3))
      refine jem (p := x2 < v1) (fun c => ?_) (fun c => ?_)
      · rw [if_pos c] at h
        exact hk52  m3 _ hf h
      · rw [if_neg c] at h
        obtain ⟨m4, hm4, h⟩ := jpu_some h
        replace hf := jfr_tr hf (jfr_up hm4 rfl)
        obtain ⟨x5, ex5, g, h⟩ := jld_some h
        obtain ⟨u6, m7, zm7, h⟩ := jbd_some h
        replace hf := jfr_tr hf (jfr_sub (W := W_M_out) rfl (fr_M_out zm7))
        exact ih  m7 _ hf h
theorem fr_M_pour {v1 : Int32} {m : jMem} {r : (Unit × jMem)} (h : f_M_pour v1 m = some r) : jfr W_M_pour m r.2 := by
  unfold f_M_pour at h
  have hf : jfr W_M_pour m m := jfr_rf
  refine fr_lp_M_pour_0 v1 _ ?_ _ m _ hf h
  intro m8 r hf h
  cases h
  exact hf

def W_M_sign : List (Nat × Nat) := [(109, 6), (109, 8), (109, 18), (109, 19), (109, 20), (109, 21), (109, 22), (109, 23), (109, 27), (111, 0), (112, 0), (117, 0)]
theorem fr_M_sign {v1 : Int32} {m : jMem} {r : (Unit × jMem)} (h : f_M_sign v1 m = some r) : jfr W_M_sign m r.2 := by
  unfold f_M_sign at h
  have hf : jfr W_M_sign m m := jfr_rf
  obtain ⟨x1, m2, zm2, h⟩ := jbd_some h
  replace hf := jfr_tr hf (jfr_sub (W := W_M_bind) rfl (fr_M_bind zm2))
  refine jem_ne (p := x1 = (4 : Int32)) (fun c => ?_) (fun c => ?_)
  · rw [if_neg c] at h
    obtain ⟨x3, m4, zm4, h⟩ := jbd_some h
    replace hf := jfr_tr hf (jfr_sub (W := W_M_bind) rfl (fr_M_bind zm4))
    obtain ⟨u5, m6, zm6, h⟩ := jbd_some h
    replace hf := jfr_tr hf (jfr_sub (W := W_M_pour) rfl (fr_M_pour zm6))
    refine jem_ne (p := (m6 109 21) = 0) (fun c => ?_) (fun c => ?_)
    · rw [if_neg c] at h
      refine jem_ne (p := (m6 109 21) = 0) (fun c => ?_) (fun c => ?_)
      · rw [if_neg c] at h
        cases h
        exact hf
      · rw [if_pos c] at h
        obtain ⟨u7, m8, zm8, h⟩ := jbd_some h
        replace hf := jfr_tr hf (jfr_sub (W := W_M_awaits) rfl (fr_M_awaits zm8))
        cases h
        exact hf
    · rw [if_pos c] at h
      obtain ⟨u9, m10, zm10, h⟩ := jbd_some h
      replace hf := jfr_tr hf (jfr_sub (W := W_M_knot) rfl (fr_M_knot zm10))
      refine jem_ne (p := (m10 109 21) = 0) (fun c => ?_) (fun c => ?_)
      · rw [if_neg c] at h
        cases h
        exact hf
      · rw [if_pos c] at h
        obtain ⟨u11, m12, zm12, h⟩ := jbd_some h
        replace hf := jfr_tr hf (jfr_sub (W := W_M_awaits) rfl (fr_M_awaits zm12))
        cases h
        exact hf
  · rw [if_pos c] at h
    obtain ⟨u13, m14, zm14, h⟩ := jbd_some h
    replace hf := jfr_tr hf (jfr_sub (W := W_M_pour) rfl (fr_M_pour zm14))
    refine jem (p := (m14 109 26) ≤ 0) (fun c => ?_) (fun c => ?_)
    · rw [if_pos c] at h
      refine jem_ne (p := (m14 109 21) = 0) (fun c => ?_) (fun c => ?_)
      · rw [if_neg c] at h
        refine jem_ne (p := (m14 109 21) = 0) (fun c => ?_) (fun c => ?_)
        · rw [if_neg c] at h
          cases h
          exact hf
        · rw [if_pos c] at h
          obtain ⟨u15, m16, zm16, h⟩ := jbd_some h
          replace hf := jfr_tr hf (jfr_sub (W := W_M_awaits) rfl (fr_M_awaits zm16))
          cases h
          exact hf
      · rw [if_pos c] at h
        obtain ⟨u17, m18, zm18, h⟩ := jbd_some h
        replace hf := jfr_tr hf (jfr_sub (W := W_M_knot) rfl (fr_M_knot zm18))
        refine jem_ne (p := (m18 109 21) = 0) (fun c => ?_) (fun c => ?_)
        · rw [if_neg c] at h
          cases h
          exact hf
        · rw [if_pos c] at h
          obtain ⟨u19, m20, zm20, h⟩ := jbd_some h
          replace hf := jfr_tr hf (jfr_sub (W := W_M_awaits) rfl (fr_M_awaits zm20))
          cases h
          exact hf
    · rw [if_neg c] at h
      obtain ⟨x21, ex21, g, h⟩ := jld_some h
      obtain ⟨x22, m23, zm23, h⟩ := jbd_some h
      replace hf := jfr_tr hf (jfr_sub (W := W_M_bind) rfl (fr_M_bind zm23))
      refine jem_ne (p := x22 = (4 : Int32)) (fun c => ?_) (fun c => ?_)
      · rw [if_neg c] at h
        refine jem_ne (p := (m23 109 21) = 0) (fun c => ?_) (fun c => ?_)
        · rw [if_neg c] at h
          refine jem_ne (p := (m23 109 21) = 0) (fun c => ?_) (fun c => ?_)
          · rw [if_neg c] at h
            cases h
            exact hf
          · rw [if_pos c] at h
            obtain ⟨u24, m25, zm25, h⟩ := jbd_some h
            replace hf := jfr_tr hf (jfr_sub (W := W_M_awaits) rfl (fr_M_awaits zm25))
            cases h
            exact hf
        · rw [if_pos c] at h
          obtain ⟨u26, m27, zm27, h⟩ := jbd_some h
          replace hf := jfr_tr hf (jfr_sub (W := W_M_knot) rfl (fr_M_knot zm27))
          refine jem_ne (p := (m27 109 21) = 0) (fun c => ?_) (fun c => ?_)
          · rw [if_neg c] at h
            cases h
            exact hf
          · rw [if_pos c] at h
            obtain ⟨u28, m29, zm29, h⟩ := jbd_some h
            replace hf := jfr_tr hf (jfr_sub (W := W_M_awaits) rfl (fr_M_awaits zm29))
            cases h
            exact hf
      · rw [if_pos c] at h
        obtain ⟨u30, m31, zm31, h⟩ := jbd_some h
        replace hf := jfr_tr hf (jfr_sub (W := W_M_wrong) rfl (fr_M_wrong zm31))
        refine jem_ne (p := (m31 109 21) = 0) (fun c => ?_) (fun c => ?_)
        · rw [if_neg c] at h
          refine jem_ne (p := (m31 109 21) = 0) (fun c => ?_) (fun c => ?_)
          · rw [if_neg c] at h
            cases h
            exact hf
          · rw [if_pos c] at h
            obtain ⟨u32, m33, zm33, h⟩ := jbd_some h
            replace hf := jfr_tr hf (jfr_sub (W := W_M_awaits) rfl (fr_M_awaits zm33))
            cases h
            exact hf
        · rw [if_pos c] at h
          obtain ⟨u34, m35, zm35, h⟩ := jbd_some h
          replace hf := jfr_tr hf (jfr_sub (W := W_M_knot) rfl (fr_M_knot zm35))
          refine jem_ne (p := (m35 109 21) = 0) (fun c => ?_) (fun c => ?_)
          · rw [if_neg c] at h
            cases h
            exact hf
          · rw [if_pos c] at h
            obtain ⟨u36, m37, zm37, h⟩ := jbd_some h
            replace hf := jfr_tr hf (jfr_sub (W := W_M_awaits) rfl (fr_M_awaits zm37))
            cases h
            exact hf

def W_M_expression : List (Nat × Nat) := [(109, 6), (109, 8), (109, 18), (109, 19), (109, 20), (109, 21), (109, 22), (109, 23), (109, 27), (109, 28), (111, 0), (112, 0), (117, 0)]
theorem fr_lp_M_expression_14 {m0 : jMem} (k109 : jMem → Option (Unit × jMem))
    (hk109 : ∀ (m : jMem) (r : (Unit × jMem)), jfr W_M_expression m0 m → k109 m = some r → jfr W_M_expression m0 r.2) : ∀ (n : Nat) (v1 : Int32) (v2 : Int32) (m : jMem) (r : (Unit × jMem)), jfr W_M_expression m0 m → lp_M_expression_14 k109 n v1 v2 m = some r → jfr W_M_expression m0 r.2 := by
  intro n
  induction n with
  | zero => intro v1 v2 m r hf h; unfold lp_M_expression_14 at h; cases h
  | succ n ih =>
    intro v1 v2 m r hf h
    unfold lp_M_expression_14 at h
    refine jem_ne (p := (m 109 21) = 0) (fun c => ?_) (fun c => ?_)
    · rw [if_neg c] at h
      exact hk109  m _ hf h
    · rw [if_pos c] at h
      refine jem (p := v2 = 0) (fun c => ?_) (fun c => ?_)
      · rw [if_pos c] at h
        exact hk109  m _ hf h
      · rw [if_neg c] at h
        refine jem_ne (p := v1 = 0) (fun c => ?_) (fun c => ?_)
        · rw [if_neg c] at h
          obtain ⟨x3, m4, zm4, h⟩ := jbd_some h
          replace hf := jfr_tr hf (jfr_sub (W := W_M_between) rfl (fr_M_between zm4))
          refine jem (p := x3 = 0) (fun c => ?_) (fun c => ?_)
          · rw [if_pos c] at h
            obtain ⟨x5, m6, zm6, h⟩ := jbd_some h
            replace hf := jfr_tr hf (jfr_sub (W := W_M_isSign) rfl (fr_M_isSign zm6))
            refine jem (p := x5 = 0) (fun c => ?_) (fun c => ?_)
            · rw [if_pos c] at h
              exact ih v1 (0 : Int32) m6 _ hf h
            · rw [if_neg c] at h
              refine jem (p := (m6 109 27) ≤ 0) (fun c => ?_) (fun c => ?_)
              · rw [if_pos c] at h
                exact ih v1 (0 : Int32) m6 _ hf h
              · rw [if_neg c] at h
                obtain ⟨u7, m8, zm8, h⟩ := jbd_some h
                replace hf := jfr_tr hf (jfr_sub (W := W_M_pour) rfl (fr_M_pour zm8))
                obtain ⟨m9, hm9, h⟩ := jpu_some h
                replace hf := jfr_tr hf (jfr_up hm9 rfl)
                obtain ⟨m10, hm10, h⟩ := jpu_some h
                replace hf := jfr_tr hf (jfr_up hm10 rfl)
                obtain ⟨u11, m12, zm12, h⟩ := jbd_some h
                replace hf := jfr_tr hf (jfr_sub (W := W_M_next) rfl (fr_M_next zm12))
                exact ih v1 v2 m12 _ hf h
          · rw [if_neg c] at h
            obtain ⟨u13, m14, zm14, h⟩ := jbd_some h
            replace hf := jfr_tr hf (jfr_sub (W := W_M_sign) rfl (fr_M_sign zm14))
            exact ih (0 : Int32) v2 m14 _ hf h
        · rw [if_pos c] at h
          obtain ⟨x15, m16, zm16, h⟩ := jbd_some h
          replace hf := jfr_tr hf (jfr_sub (W := W_M_operand) rfl (fr_M_operand zm16))
          exact ih x15 v2 m16 _ hf h
theorem fr_M_expression {m : jMem} {r : (Unit × jMem)} (h : f_M_expression m = some r) : jfr W_M_expression m r.2 := by
  unfold f_M_expression at h
  have hf : jfr W_M_expression m m := jfr_rf
  obtain ⟨m1, hm1, h⟩ := jpu_some h
  replace hf := jfr_tr hf (jfr_up hm1 rfl)
  obtain ⟨m2, hm2, h⟩ := jpu_some h
  replace hf := jfr_tr hf (jfr_up hm2 rfl)
  refine fr_lp_M_expression_14 _ ?_ _ (0 : Int32) (1 : Int32) m2 _ hf h
  intro m17 r hf h
  refine jem (p := (m17 109 21) = 0) (fun c => ?_) (fun c => ?_)
  · rw [if_pos c] at h
    refine jem (p := (m17 109 27) ≤ 0) (fun c => ?_) (fun c => ?_)
    · rw [if_pos c] at h
      refine jem_ne (p := (m17 109 21) = 0) (fun c => ?_) (fun c => ?_)
      · rw [if_neg c] at h
        cases h
        exact hf
      · rw [if_pos c] at h
        obtain ⟨u18, m19, zm19, h⟩ := jbd_some h
        replace hf := jfr_tr hf (jfr_sub (W := W_M_pour) rfl (fr_M_pour zm19))
        cases h
        exact hf
    · rw [if_neg c] at h
      obtain ⟨u20, m21, zm21, h⟩ := jbd_some h
      replace hf := jfr_tr hf (jfr_sub (W := W_M_wrong) rfl (fr_M_wrong zm21))
      refine jem_ne (p := (m21 109 21) = 0) (fun c => ?_) (fun c => ?_)
      · rw [if_neg c] at h
        cases h
        exact hf
      · rw [if_pos c] at h
        obtain ⟨u22, m23, zm23, h⟩ := jbd_some h
        replace hf := jfr_tr hf (jfr_sub (W := W_M_pour) rfl (fr_M_pour zm23))
        cases h
        exact hf
  · rw [if_neg c] at h
    cases h
    exact hf

def W_M_habit : List (Nat × Nat) := [(109, 6), (109, 8), (109, 13), (109, 18), (109, 19), (109, 20), (109, 21), (109, 22), (109, 23), (109, 27), (109, 28), (111, 0), (112, 0), (113, 0), (114, 0), (115, 0), (117, 0)]
theorem fr_M_habit {v1 : Int32} {m : jMem} {r : (Unit × jMem)} (h : f_M_habit v1 m = some r) : jfr W_M_habit m r.2 := by
  unfold f_M_habit at h
  have hf : jfr W_M_habit m m := jfr_rf
  obtain ⟨m1, hm1, g, h⟩ := jst_some h
  replace hf := jfr_tr hf (jfr_ua hm1 rfl)
  obtain ⟨m2, hm2, g, h⟩ := jst_some h
  replace hf := jfr_tr hf (jfr_ua hm2 rfl)
  obtain ⟨u3, m4, zm4, h⟩ := jbd_some h
  replace hf := jfr_tr hf (jfr_sub (W := W_M_expression) rfl (fr_M_expression zm4))
  refine jem (p := (m4 109 21) = 0) (fun c => ?_) (fun c => ?_)
  · rw [if_pos c] at h
    obtain ⟨m5, hm5, g, h⟩ := jst_some h
    replace hf := jfr_tr hf (jfr_ua hm5 rfl)
    refine jem_ne (p := (m5 109 19) = 0) (fun c => ?_) (fun c => ?_)
    · rw [if_neg c] at h
      refine jem (p := (m5 109 21) = 0) (fun c => ?_) (fun c => ?_)
      · rw [if_pos c] at h
        obtain ⟨m6, hm6, h⟩ := jpu_some h
        replace hf := jfr_tr hf (jfr_up hm6 rfl)
        obtain ⟨m7, hm7, g, h⟩ := jst_some h
        replace hf := jfr_tr hf (jfr_ua hm7 rfl)
        cases h
        exact hf
      · rw [if_neg c] at h
        cases h
        exact hf
    · rw [if_pos c] at h
      refine jem_ne (p := (m5 109 20) = (3 : Int32)) (fun c => ?_) (fun c => ?_)
      · rw [if_neg c] at h
        refine jem (p := (m5 109 21) = 0) (fun c => ?_) (fun c => ?_)
        · rw [if_pos c] at h
          obtain ⟨m8, hm8, h⟩ := jpu_some h
          replace hf := jfr_tr hf (jfr_up hm8 rfl)
          obtain ⟨m9, hm9, g, h⟩ := jst_some h
          replace hf := jfr_tr hf (jfr_ua hm9 rfl)
          cases h
          exact hf
        · rw [if_neg c] at h
          cases h
          exact hf
      · rw [if_pos c] at h
        obtain ⟨u10, m11, zm11, h⟩ := jbd_some h
        replace hf := jfr_tr hf (jfr_sub (W := W_M_next) rfl (fr_M_next zm11))
        obtain ⟨x12, m13, zm13, h⟩ := jbd_some h
        replace hf := jfr_tr hf (jfr_sub (W := W_M_writers) rfl (fr_M_writers zm13))
        obtain ⟨m14, hm14, g, h⟩ := jst_some h
        replace hf := jfr_tr hf (jfr_ua hm14 rfl)
        refine jem_ne (p := (m14 109 21) = 0) (fun c => ?_) (fun c => ?_)
        · rw [if_neg c] at h
          refine jem (p := (m14 109 21) = 0) (fun c => ?_) (fun c => ?_)
          · rw [if_pos c] at h
            obtain ⟨m15, hm15, h⟩ := jpu_some h
            replace hf := jfr_tr hf (jfr_up hm15 rfl)
            obtain ⟨m16, hm16, g, h⟩ := jst_some h
            replace hf := jfr_tr hf (jfr_ua hm16 rfl)
            cases h
            exact hf
          · rw [if_neg c] at h
            cases h
            exact hf
        · rw [if_pos c] at h
          obtain ⟨x17, ex17, g, h⟩ := jld_some h
          refine jem_ne (p := x17 = 0) (fun c => ?_) (fun c => ?_)
          · rw [if_neg c] at h
            refine jem (p := (m14 109 21) = 0) (fun c => ?_) (fun c => ?_)
            · rw [if_pos c] at h
              obtain ⟨m18, hm18, h⟩ := jpu_some h
              replace hf := jfr_tr hf (jfr_up hm18 rfl)
              obtain ⟨m19, hm19, g, h⟩ := jst_some h
              replace hf := jfr_tr hf (jfr_ua hm19 rfl)
              cases h
              exact hf
            · rw [if_neg c] at h
              cases h
              exact hf
          · rw [if_pos c] at h
            obtain ⟨u20, m21, zm21, h⟩ := jbd_some h
            replace hf := jfr_tr hf (jfr_sub (W := W_M_wrong) rfl (fr_M_wrong zm21))
            refine jem (p := (m21 109 21) = 0) (fun c => ?_) (fun c => ?_)
            · rw [if_pos c] at h
              obtain ⟨m22, hm22, h⟩ := jpu_some h
              replace hf := jfr_tr hf (jfr_up hm22 rfl)
              obtain ⟨m23, hm23, g, h⟩ := jst_some h
              replace hf := jfr_tr hf (jfr_ua hm23 rfl)
              cases h
              exact hf
            · rw [if_neg c] at h
              cases h
              exact hf
  · rw [if_neg c] at h
    cases h
    exact hf

def W_M_reads : List (Nat × Nat) := [(109, 15), (109, 18), (109, 19), (109, 20), (109, 21), (109, 22), (109, 23), (116, 0)]
theorem fr_lp_M_reads_114 {m0 : jMem} (v1 : Int32) (v2 : Int32) (k145 : jMem → Option (Unit × jMem))
    (hk145 : ∀ (m : jMem) (r : (Unit × jMem)), jfr W_M_reads m0 m → k145 m = some r → jfr W_M_reads m0 r.2) : ∀ (n : Nat) (v3 : Int32) (m : jMem) (r : (Unit × jMem)), jfr W_M_reads m0 m → lp_M_reads_114 v1 v2 k145 n v3 m = some r → jfr W_M_reads m0 r.2 := by
  intro n
  induction n with
  | zero => intro v3 m r hf h; unfold lp_M_reads_114 at h; cases h
  | succ n ih =>
    intro v3 m r hf h
    unfold lp_M_reads_114 at h
    refine jem (p := (6 : Int32) ≤ v3) (fun c => ?_) (fun c => ?_)
    · rw [if_pos c] at h
      exact hk145  m _ hf h
    · rw [if_neg c] at h
      refine jem_ne (p := ((v2 >>> (v3 &&& 31)) &&& (1 : Int32)) = (1 : Int32)) (fun c => ?_) (fun c => ?_)
      · rw [if_neg c] at h
        exact ih (v3 + (1 : Int32)) m _ hf h
      · rw [if_pos c] at h
        obtain ⟨m10, hm10, g, h⟩ := jst_some h
        replace hf := jfr_tr hf (jfr_ua hm10 rfl)
        exact ih (v3 + (1 : Int32)) m10 _ hf h
theorem fr_M_reads {m : jMem} {r : (Unit × jMem)} (h : f_M_reads m = some r) : jfr W_M_reads m r.2 := by
  unfold f_M_reads at h
  have hf : jfr W_M_reads m m := jfr_rf
  refine jem_ne (p := (m 109 19) = 0) (fun c => ?_) (fun c => ?_)
  · rw [if_neg c] at h
    obtain ⟨u1, m2, zm2, h⟩ := jbd_some h
    replace hf := jfr_tr hf (jfr_sub (W := W_M_wrong) rfl (fr_M_wrong zm2))
    cases h
    exact hf
  · rw [if_pos c] at h
    refine jem (p := (m 109 20) < (4 : Int32)) (fun c => ?_) (fun c => ?_)
    · rw [if_pos c] at h
      obtain ⟨u3, m4, zm4, h⟩ := jbd_some h
      replace hf := jfr_tr hf (jfr_sub (W := W_M_wrong) rfl (fr_M_wrong zm4))
      cases h
      exact hf
    · rw [if_neg c] at h
      refine jem (p := (m 109 20) ≤ (8 : Int32)) (fun c => ?_) (fun c => ?_)
      · rw [if_pos c] at h
        obtain ⟨u5, m6, zm6, h⟩ := jbd_some h
        replace hf := jfr_tr hf (jfr_sub (W := W_M_next) rfl (fr_M_next zm6))
        obtain ⟨x7, m8, zm8, h⟩ := jbd_some h
        replace hf := jfr_tr hf (jfr_sub (W := W_M_writers) rfl (fr_M_writers zm8))
        refine jem (p := (m8 109 21) = 0) (fun c => ?_) (fun c => ?_)
        · rw [if_pos c] at h
          refine jem_ne (p := x7 = 0) (fun c => ?_) (fun c => ?_)
          · rw [if_neg c] at h
            refine jem (p := (m8 109 21) = 0) (fun c => ?_) (fun c => ?_)
            · rw [if_pos c] at h
              obtain ⟨m9, hm9, h⟩ := jpu_some h
              replace hf := jfr_tr hf (jfr_up hm9 rfl)
              refine fr_lp_M_reads_114 ((m 109 20) - (4 : Int32)) x7 _ ?_ _ (0 : Int32) m9 _ hf h
              intro m11 r hf h
              cases h
              exact hf
            · rw [if_neg c] at h
              cases h
              exact hf
          · rw [if_pos c] at h
            obtain ⟨x12, m13, zm13, h⟩ := jbd_some h
            replace hf := jfr_tr hf (jfr_sub (W := W_M_isSign) rfl (fr_M_isSign zm13))
            refine jem_ne (p := x12 = 0) (fun c => ?_) (fun c => ?_)
            · rw [if_neg c] at h
              refine jem (p := (m13 109 14) = 0) (fun c => ?_) (fun c => ?_)
              · rw [if_pos c] at h
                refine jem (p := (m13 109 21) = 0) (fun c => ?_) (fun c => ?_)
                · rw [if_pos c] at h
                  obtain ⟨m14, hm14, h⟩ := jpu_some h
                  replace hf := jfr_tr hf (jfr_up hm14 rfl)
                  refine fr_lp_M_reads_114 ((m 109 20) - (4 : Int32)) (63 : Int32) _ ?_ _ (0 : Int32) m14 _ hf h
                  intro m15 r hf h
                  cases h
                  exact hf
                · rw [if_neg c] at h
                  cases h
                  exact hf
              · rw [if_neg c] at h
                obtain ⟨u16, m17, zm17, h⟩ := jbd_some h
                replace hf := jfr_tr hf (jfr_sub (W := W_M_wrong) rfl (fr_M_wrong zm17))
                refine jem (p := (m17 109 21) = 0) (fun c => ?_) (fun c => ?_)
                · rw [if_pos c] at h
                  obtain ⟨m18, hm18, h⟩ := jpu_some h
                  replace hf := jfr_tr hf (jfr_up hm18 rfl)
                  refine fr_lp_M_reads_114 ((m 109 20) - (4 : Int32)) (63 : Int32) _ ?_ _ (0 : Int32) m18 _ hf h
                  intro m19 r hf h
                  cases h
                  exact hf
                · rw [if_neg c] at h
                  cases h
                  exact hf
            · rw [if_pos c] at h
              obtain ⟨u20, m21, zm21, h⟩ := jbd_some h
              replace hf := jfr_tr hf (jfr_sub (W := W_M_wrong) rfl (fr_M_wrong zm21))
              refine jem (p := (m21 109 21) = 0) (fun c => ?_) (fun c => ?_)
              · rw [if_pos c] at h
                obtain ⟨m22, hm22, h⟩ := jpu_some h
                replace hf := jfr_tr hf (jfr_up hm22 rfl)
                refine fr_lp_M_reads_114 ((m 109 20) - (4 : Int32)) (63 : Int32) _ ?_ _ (0 : Int32) m22 _ hf h
                intro m23 r hf h
                cases h
                exact hf
              · rw [if_neg c] at h
                cases h
                exact hf
        · rw [if_neg c] at h
          cases h
          exact hf
      · rw [if_neg c] at h
        obtain ⟨u24, m25, zm25, h⟩ := jbd_some h
        replace hf := jfr_tr hf (jfr_sub (W := W_M_wrong) rfl (fr_M_wrong zm25))
        cases h
        exact hf

def W_M_line : List (Nat × Nat) := [(109, 6), (109, 8), (109, 13), (109, 15), (109, 16), (109, 18), (109, 19), (109, 20), (109, 21), (109, 22), (109, 23), (109, 27), (109, 28), (111, 0), (112, 0), (113, 0), (114, 0), (115, 0), (116, 0), (117, 0)]
theorem fr_M_line {m : jMem} {r : (Unit × jMem)} (h : f_M_line m = some r) : jfr W_M_line m r.2 := by
  unfold f_M_line at h
  have hf : jfr W_M_line m m := jfr_rf
  refine jem_ne (p := (m 109 19) = 0) (fun c => ?_) (fun c => ?_)
  · rw [if_neg c] at h
    obtain ⟨u1, m2, zm2, h⟩ := jbd_some h
    replace hf := jfr_tr hf (jfr_sub (W := W_M_wrong) rfl (fr_M_wrong zm2))
    cases h
    exact hf
  · rw [if_pos c] at h
    refine jem (p := (m 109 20) ≤ (2 : Int32)) (fun c => ?_) (fun c => ?_)
    · rw [if_pos c] at h
      refine jem (p := (m 109 20) = 0) (fun c => ?_) (fun c => ?_)
      · rw [if_pos c] at h
        obtain ⟨u3, m4, zm4, h⟩ := jbd_some h
        replace hf := jfr_tr hf (jfr_sub (W := W_M_next) rfl (fr_M_next zm4))
        refine jem_ne (p := (m 109 20) = 0) (fun c => ?_) (fun c => ?_)
        · rw [if_neg c] at h
          refine jem_ne (p := (m 109 20) = (2 : Int32)) (fun c => ?_) (fun c => ?_)
          · rw [if_neg c] at h
            obtain ⟨u5, m6, zm6, h⟩ := jbd_some h
            replace hf := jfr_tr hf (jfr_sub (W := W_M_habit) rfl (fr_M_habit zm6))
            refine jem (p := (m6 109 21) = 0) (fun c => ?_) (fun c => ?_)
            · rw [if_pos c] at h
              obtain ⟨x7, m8, zm8, h⟩ := jbd_some h
              replace hf := jfr_tr hf (jfr_sub (W := W_M_isSign) rfl (fr_M_isSign zm8))
              refine jem_ne (p := x7 = 0) (fun c => ?_) (fun c => ?_)
              · rw [if_neg c] at h
                obtain ⟨u9, m10, zm10, h⟩ := jbd_some h
                replace hf := jfr_tr hf (jfr_sub (W := W_M_next) rfl (fr_M_next zm10))
                obtain ⟨m11, hm11, h⟩ := jpu_some h
                replace hf := jfr_tr hf (jfr_up hm11 rfl)
                cases h
                exact hf
              · rw [if_pos c] at h
                obtain ⟨u12, m13, zm13, h⟩ := jbd_some h
                replace hf := jfr_tr hf (jfr_sub (W := W_M_wrong) rfl (fr_M_wrong zm13))
                cases h
                exact hf
            · rw [if_neg c] at h
              cases h
              exact hf
          · rw [if_pos c] at h
            obtain ⟨u14, m15, zm15, h⟩ := jbd_some h
            replace hf := jfr_tr hf (jfr_sub (W := W_M_habit) rfl (fr_M_habit zm15))
            refine jem (p := (m15 109 21) = 0) (fun c => ?_) (fun c => ?_)
            · rw [if_pos c] at h
              obtain ⟨x16, m17, zm17, h⟩ := jbd_some h
              replace hf := jfr_tr hf (jfr_sub (W := W_M_isSign) rfl (fr_M_isSign zm17))
              refine jem_ne (p := x16 = 0) (fun c => ?_) (fun c => ?_)
              · rw [if_neg c] at h
                obtain ⟨u18, m19, zm19, h⟩ := jbd_some h
                replace hf := jfr_tr hf (jfr_sub (W := W_M_next) rfl (fr_M_next zm19))
                obtain ⟨m20, hm20, h⟩ := jpu_some h
                replace hf := jfr_tr hf (jfr_up hm20 rfl)
                cases h
                exact hf
              · rw [if_pos c] at h
                obtain ⟨u21, m22, zm22, h⟩ := jbd_some h
                replace hf := jfr_tr hf (jfr_sub (W := W_M_wrong) rfl (fr_M_wrong zm22))
                cases h
                exact hf
            · rw [if_neg c] at h
              cases h
              exact hf
        · rw [if_pos c] at h
          obtain ⟨u23, m24, zm24, h⟩ := jbd_some h
          replace hf := jfr_tr hf (jfr_sub (W := W_M_reads) rfl (fr_M_reads zm24))
          refine jem (p := (m24 109 21) = 0) (fun c => ?_) (fun c => ?_)
          · rw [if_pos c] at h
            obtain ⟨x25, m26, zm26, h⟩ := jbd_some h
            replace hf := jfr_tr hf (jfr_sub (W := W_M_isSign) rfl (fr_M_isSign zm26))
            refine jem_ne (p := x25 = 0) (fun c => ?_) (fun c => ?_)
            · rw [if_neg c] at h
              obtain ⟨u27, m28, zm28, h⟩ := jbd_some h
              replace hf := jfr_tr hf (jfr_sub (W := W_M_next) rfl (fr_M_next zm28))
              obtain ⟨m29, hm29, h⟩ := jpu_some h
              replace hf := jfr_tr hf (jfr_up hm29 rfl)
              cases h
              exact hf
            · rw [if_pos c] at h
              obtain ⟨u30, m31, zm31, h⟩ := jbd_some h
              replace hf := jfr_tr hf (jfr_sub (W := W_M_wrong) rfl (fr_M_wrong zm31))
              cases h
              exact hf
          · rw [if_neg c] at h
            cases h
            exact hf
      · rw [if_neg c] at h
        refine jem_ne (p := (m 109 12) = (8 : Int32)) (fun c => ?_) (fun c => ?_)
        · rw [if_neg c] at h
          obtain ⟨u32, m33, zm33, h⟩ := jbd_some h
          replace hf := jfr_tr hf (jfr_sub (W := W_M_next) rfl (fr_M_next zm33))
          refine jem_ne (p := (m 109 20) = 0) (fun c => ?_) (fun c => ?_)
          · rw [if_neg c] at h
            refine jem_ne (p := (m 109 20) = (2 : Int32)) (fun c => ?_) (fun c => ?_)
            · rw [if_neg c] at h
              obtain ⟨u34, m35, zm35, h⟩ := jbd_some h
              replace hf := jfr_tr hf (jfr_sub (W := W_M_habit) rfl (fr_M_habit zm35))
              refine jem (p := (m35 109 21) = 0) (fun c => ?_) (fun c => ?_)
              · rw [if_pos c] at h
                obtain ⟨x36, m37, zm37, h⟩ := jbd_some h
                replace hf := jfr_tr hf (jfr_sub (W := W_M_isSign) rfl (fr_M_isSign zm37))
                refine jem_ne (p := x36 = 0) (fun c => ?_) (fun c => ?_)
                · rw [if_neg c] at h
                  obtain ⟨u38, m39, zm39, h⟩ := jbd_some h
                  replace hf := jfr_tr hf (jfr_sub (W := W_M_next) rfl (fr_M_next zm39))
                  obtain ⟨m40, hm40, h⟩ := jpu_some h
                  replace hf := jfr_tr hf (jfr_up hm40 rfl)
                  cases h
                  exact hf
                · rw [if_pos c] at h
                  obtain ⟨u41, m42, zm42, h⟩ := jbd_some h
                  replace hf := jfr_tr hf (jfr_sub (W := W_M_wrong) rfl (fr_M_wrong zm42))
                  cases h
                  exact hf
              · rw [if_neg c] at h
                cases h
                exact hf
            · rw [if_pos c] at h
              obtain ⟨u43, m44, zm44, h⟩ := jbd_some h
              replace hf := jfr_tr hf (jfr_sub (W := W_M_habit) rfl (fr_M_habit zm44))
              refine jem (p := (m44 109 21) = 0) (fun c => ?_) (fun c => ?_)
              · rw [if_pos c] at h
                obtain ⟨x45, m46, zm46, h⟩ := jbd_some h
                replace hf := jfr_tr hf (jfr_sub (W := W_M_isSign) rfl (fr_M_isSign zm46))
                refine jem_ne (p := x45 = 0) (fun c => ?_) (fun c => ?_)
                · rw [if_neg c] at h
                  obtain ⟨u47, m48, zm48, h⟩ := jbd_some h
                  replace hf := jfr_tr hf (jfr_sub (W := W_M_next) rfl (fr_M_next zm48))
                  obtain ⟨m49, hm49, h⟩ := jpu_some h
                  replace hf := jfr_tr hf (jfr_up hm49 rfl)
                  cases h
                  exact hf
                · rw [if_pos c] at h
                  obtain ⟨u50, m51, zm51, h⟩ := jbd_some h
                  replace hf := jfr_tr hf (jfr_sub (W := W_M_wrong) rfl (fr_M_wrong zm51))
                  cases h
                  exact hf
              · rw [if_neg c] at h
                cases h
                exact hf
          · rw [if_pos c] at h
            obtain ⟨u52, m53, zm53, h⟩ := jbd_some h
            replace hf := jfr_tr hf (jfr_sub (W := W_M_reads) rfl (fr_M_reads zm53))
            refine jem (p := (m53 109 21) = 0) (fun c => ?_) (fun c => ?_)
            · rw [if_pos c] at h
              obtain ⟨x54, m55, zm55, h⟩ := jbd_some h
              replace hf := jfr_tr hf (jfr_sub (W := W_M_isSign) rfl (fr_M_isSign zm55))
              refine jem_ne (p := x54 = 0) (fun c => ?_) (fun c => ?_)
              · rw [if_neg c] at h
                obtain ⟨u56, m57, zm57, h⟩ := jbd_some h
                replace hf := jfr_tr hf (jfr_sub (W := W_M_next) rfl (fr_M_next zm57))
                obtain ⟨m58, hm58, h⟩ := jpu_some h
                replace hf := jfr_tr hf (jfr_up hm58 rfl)
                cases h
                exact hf
              · rw [if_pos c] at h
                obtain ⟨u59, m60, zm60, h⟩ := jbd_some h
                replace hf := jfr_tr hf (jfr_sub (W := W_M_wrong) rfl (fr_M_wrong zm60))
                cases h
                exact hf
            · rw [if_neg c] at h
              cases h
              exact hf
        · rw [if_pos c] at h
          obtain ⟨u61, m62, zm62, h⟩ := jbd_some h
          replace hf := jfr_tr hf (jfr_sub (W := W_M_wrong) rfl (fr_M_wrong zm62))
          cases h
          exact hf
    · rw [if_neg c] at h
      obtain ⟨u63, m64, zm64, h⟩ := jbd_some h
      replace hf := jfr_tr hf (jfr_sub (W := W_M_wrong) rfl (fr_M_wrong zm64))
      cases h
      exact hf

def W_M_text : List (Nat × Nat) := [(109, 1), (109, 3), (109, 6), (109, 7), (109, 8), (109, 12), (109, 13), (109, 15), (109, 16), (109, 17), (109, 18), (109, 19), (109, 20), (109, 21), (109, 22), (109, 23), (109, 24), (109, 25), (109, 27), (109, 28), (111, 0), (112, 0), (113, 0), (114, 0), (115, 0), (116, 0), (117, 0)]
theorem fr_lp_M_text_80 {m0 : jMem} (k102 : jMem → Option (Int32 × jMem))
    (hk102 : ∀ (m : jMem) (r : (Int32 × jMem)), jfr W_M_text m0 m → k102 m = some r → jfr W_M_text m0 r.2) : ∀ (n : Nat) (v2 : Int32) (m : jMem) (r : (Int32 × jMem)), jfr W_M_text m0 m → lp_M_text_80 k102 n v2 m = some r → jfr W_M_text m0 r.2 := by
  intro n
  induction n with
  | zero => intro v2 m r hf h; unfold lp_M_text_80 at h; cases h
  | succ n ih =>
    intro v2 m r hf h
    unfold lp_M_text_80 at h
    refine jem (p := (6 : Int32) ≤ v2) (fun c => ?_) (fun c => ?_)
    · rw [if_pos c] at h
      exact hk102  m _ hf h
    · rw [if_neg c] at h
      obtain ⟨m13, hm13, g, h⟩ := jst_some h
      replace hf := jfr_tr hf (jfr_ua hm13 rfl)
      exact ih (v2 + (1 : Int32)) m13 _ hf h
theorem fr_lp_M_text_106 {m0 : jMem} (k128 : jMem → Option (Int32 × jMem))
    (hk128 : ∀ (m : jMem) (r : (Int32 × jMem)), jfr W_M_text m0 m → k128 m = some r → jfr W_M_text m0 r.2) : ∀ (n : Nat) (m : jMem) (r : (Int32 × jMem)), jfr W_M_text m0 m → lp_M_text_106 k128 n m = some r → jfr W_M_text m0 r.2 := by
  intro n
  induction n with
  | zero => intro m r hf h; unfold lp_M_text_106 at h; cases h
  | succ n ih =>
    intro m r hf h
    unfold lp_M_text_106 at h
    refine jem_ne (p := (m 109 21) = 0) (fun c => ?_) (fun c => ?_)
    · rw [if_neg c] at h
      exact hk128  m _ hf h
    · rw [if_pos c] at h
      refine jem (p := (m 109 19) = (3 : Int32)) (fun c => ?_) (fun c => ?_)
      · rw [if_pos c] at h
        exact hk128  m _ hf h
      · rw [if_neg c] at h
        obtain ⟨u17, m18, zm18, h⟩ := jbd_some h
        replace hf := jfr_tr hf (jfr_sub (W := W_M_line) rfl (fr_M_line zm18))
        exact ih  m18 _ hf h
theorem fr_lp_M_text_155 {m0 : jMem} (k197 : jMem → Option (Int32 × jMem))
    (hk197 : ∀ (m : jMem) (r : (Int32 × jMem)), jfr W_M_text m0 m → k197 m = some r → jfr W_M_text m0 r.2) : ∀ (n : Nat) (v2 : Int32) (m : jMem) (r : (Int32 × jMem)), jfr W_M_text m0 m → lp_M_text_155 k197 n v2 m = some r → jfr W_M_text m0 r.2 := by
  intro n
  induction n with
  | zero => intro v2 m r hf h; unfold lp_M_text_155 at h; cases h
  | succ n ih =>
    intro v2 m r hf h
    unfold lp_M_text_155 at h
    refine jem (p := (64 : Int32) ≤ v2) (fun c => ?_) (fun c => ?_)
    · rw [if_pos c] at h
      exact hk197  m _ hf h
    · rw [if_neg c] at h
      obtain ⟨x22, ex22, g, h⟩ := jld_some h
      obtain ⟨m23, hm23, g, h⟩ := jst_some h
      replace hf := jfr_tr hf (jfr_ua hm23 rfl)
      obtain ⟨x24, ex24, g, h⟩ := jld_some h
      obtain ⟨m25, hm25, g, h⟩ := jst_some h
      replace hf := jfr_tr hf (jfr_ua hm25 rfl)
      exact ih (v2 + (1 : Int32)) m25 _ hf h
theorem fr_lp_M_text_199 {m0 : jMem} (k256 : jMem → Option (Int32 × jMem))
    (hk256 : ∀ (m : jMem) (r : (Int32 × jMem)), jfr W_M_text m0 m → k256 m = some r → jfr W_M_text m0 r.2) : ∀ (n : Nat) (v2 : Int32) (m : jMem) (r : (Int32 × jMem)), jfr W_M_text m0 m → lp_M_text_199 k256 n v2 m = some r → jfr W_M_text m0 r.2 := by
  intro n
  induction n with
  | zero => intro v2 m r hf h; unfold lp_M_text_199 at h; cases h
  | succ n ih =>
    intro v2 m r hf h
    unfold lp_M_text_199 at h
    refine jem (p := (9 : Int32) ≤ v2) (fun c => ?_) (fun c => ?_)
    · rw [if_pos c] at h
      exact hk256  m _ hf h
    · rw [if_neg c] at h
      obtain ⟨x27, ex27, g, h⟩ := jld_some h
      obtain ⟨m28, hm28, g, h⟩ := jst_some h
      replace hf := jfr_tr hf (jfr_ua hm28 rfl)
      obtain ⟨x29, ex29, g, h⟩ := jld_some h
      obtain ⟨m30, hm30, g, h⟩ := jst_some h
      replace hf := jfr_tr hf (jfr_ua hm30 rfl)
      obtain ⟨x31, ex31, g, h⟩ := jld_some h
      obtain ⟨m32, hm32, g, h⟩ := jst_some h
      replace hf := jfr_tr hf (jfr_ua hm32 rfl)
      exact ih (v2 + (1 : Int32)) m32 _ hf h
theorem fr_lp_M_text_258 {m0 : jMem} (k285 : jMem → Option (Int32 × jMem))
    (hk285 : ∀ (m : jMem) (r : (Int32 × jMem)), jfr W_M_text m0 m → k285 m = some r → jfr W_M_text m0 r.2) : ∀ (n : Nat) (v2 : Int32) (m : jMem) (r : (Int32 × jMem)), jfr W_M_text m0 m → lp_M_text_258 k285 n v2 m = some r → jfr W_M_text m0 r.2 := by
  intro n
  induction n with
  | zero => intro v2 m r hf h; unfold lp_M_text_258 at h; cases h
  | succ n ih =>
    intro v2 m r hf h
    unfold lp_M_text_258 at h
    refine jem (p := (6 : Int32) ≤ v2) (fun c => ?_) (fun c => ?_)
    · rw [if_pos c] at h
      exact hk285  m _ hf h
    · rw [if_neg c] at h
      obtain ⟨x34, ex34, g, h⟩ := jld_some h
      obtain ⟨m35, hm35, g, h⟩ := jst_some h
      replace hf := jfr_tr hf (jfr_ua hm35 rfl)
      exact ih (v2 + (1 : Int32)) m35 _ hf h
theorem fr_M_text {v1 : Int32} {m : jMem} {r : (Int32 × jMem)} (h : f_M_text v1 m = some r) : jfr W_M_text m r.2 := by
  unfold f_M_text at h
  have hf : jfr W_M_text m m := jfr_rf
  obtain ⟨m1, hm1, h⟩ := jpu_some h
  replace hf := jfr_tr hf (jfr_up hm1 rfl)
  refine jem (p := v1 < 0) (fun c => ?_) (fun c => ?_)
  · rw [if_pos c] at h
    cases h
    exact hf
  · rw [if_neg c] at h
    refine jem (p := v1 ≤ (m1 109 2)) (fun c => ?_) (fun c => ?_)
    · rw [if_pos c] at h
      obtain ⟨m2, hm2, h⟩ := jpu_some h
      replace hf := jfr_tr hf (jfr_up hm2 rfl)
      obtain ⟨m3, hm3, h⟩ := jpu_some h
      replace hf := jfr_tr hf (jfr_up hm3 rfl)
      obtain ⟨m4, hm4, h⟩ := jpu_some h
      replace hf := jfr_tr hf (jfr_up hm4 rfl)
      obtain ⟨m5, hm5, h⟩ := jpu_some h
      replace hf := jfr_tr hf (jfr_up hm5 rfl)
      obtain ⟨m6, hm6, h⟩ := jpu_some h
      replace hf := jfr_tr hf (jfr_up hm6 rfl)
      obtain ⟨m7, hm7, h⟩ := jpu_some h
      replace hf := jfr_tr hf (jfr_up hm7 rfl)
      obtain ⟨m8, hm8, h⟩ := jpu_some h
      replace hf := jfr_tr hf (jfr_up hm8 rfl)
      obtain ⟨m9, hm9, h⟩ := jpu_some h
      replace hf := jfr_tr hf (jfr_up hm9 rfl)
      obtain ⟨m10, hm10, h⟩ := jpu_some h
      replace hf := jfr_tr hf (jfr_up hm10 rfl)
      obtain ⟨m11, hm11, h⟩ := jpu_some h
      replace hf := jfr_tr hf (jfr_up hm11 rfl)
      obtain ⟨m12, hm12, g, h⟩ := jst_some h
      replace hf := jfr_tr hf (jfr_ua hm12 rfl)
      refine fr_lp_M_text_80 _ ?_ _ (0 : Int32) m12 _ hf h
      intro m14 r hf h
      obtain ⟨u15, m16, zm16, h⟩ := jbd_some h
      replace hf := jfr_tr hf (jfr_sub (W := W_M_next) rfl (fr_M_next zm16))
      refine fr_lp_M_text_106 _ ?_ _ m16 _ hf h
      intro m19 r hf h
      obtain ⟨m20, hm20, h⟩ := jpu_some h
      replace hf := jfr_tr hf (jfr_up hm20 rfl)
      obtain ⟨m21, hm21, h⟩ := jpu_some h
      replace hf := jfr_tr hf (jfr_up hm21 rfl)
      refine jem (p := (m21 109 21) = 0) (fun c => ?_) (fun c => ?_)
      · rw [if_pos c] at h
        refine fr_lp_M_text_155 _ ?_ _ (0 : Int32) m21 _ hf h
        intro m26 r hf h
        refine fr_lp_M_text_199 _ ?_ _ (0 : Int32) m26 _ hf h
        intro m33 r hf h
        refine fr_lp_M_text_258 _ ?_ _ (0 : Int32) m33 _ hf h
        intro m36 r hf h
        obtain ⟨m37, hm37, h⟩ := jpu_some h
        replace hf := jfr_tr hf (jfr_up hm37 rfl)
        obtain ⟨m38, hm38, h⟩ := jpu_some h
        replace hf := jfr_tr hf (jfr_up hm38 rfl)
        cases h
        exact hf
      · rw [if_neg c] at h
        cases h
        exact hf
    · rw [if_neg c] at h
      cases h
      exact hf

def W_M_fault : List (Nat × Nat) := [(109, 1)]
theorem fr_M_fault {v1 : Int32} {m : jMem} {r : (Int32 × jMem)} (h : f_M_fault v1 m = some r) : jfr W_M_fault m r.2 := by
  unfold f_M_fault at h
  have hf : jfr W_M_fault m m := jfr_rf
  obtain ⟨m1, hm1, h⟩ := jpu_some h
  replace hf := jfr_tr hf (jfr_up hm1 rfl)
  refine jem_ne (p := v1 = 0) (fun c => ?_) (fun c => ?_)
  · rw [if_neg c] at h
    refine jem_ne (p := v1 = (1 : Int32)) (fun c => ?_) (fun c => ?_)
    · rw [if_neg c] at h
      cases h
      exact hf
    · rw [if_pos c] at h
      cases h
      exact hf
  · rw [if_pos c] at h
    cases h
    exact hf

def W_M_is : List (Nat × Nat) := []
theorem fr_M_is {v0 : Int32} {m : jMem} {r : (Int32 × jMem)} (h : f_M_is v0 m = some r) : jfr W_M_is m r.2 := by
  unfold f_M_is at h
  have hf : jfr W_M_is m m := jfr_rf
  refine jem (p := v0 = 0) (fun c => ?_) (fun c => ?_)
  · rw [if_pos c] at h
    cases h
    exact hf
  · rw [if_neg c] at h
    cases h
    exact hf

def W_M_does : List (Nat × Nat) := [(109, 31), (119, 0)]
theorem fr_M_does {v1 : Int32} {m : jMem} {r : (Unit × jMem)} (h : f_M_does v1 m = some r) : jfr W_M_does m r.2 := by
  unfold f_M_does at h
  have hf : jfr W_M_does m m := jfr_rf
  refine jem_ne (p := v1 = (260 : Int32)) (fun c => ?_) (fun c => ?_)
  · rw [if_neg c] at h
    obtain ⟨m1, hm1, h⟩ := jpu_some h
    replace hf := jfr_tr hf (jfr_up hm1 rfl)
    obtain ⟨x2, ex2, g, h⟩ := jld_some h
    obtain ⟨x3, ex3, g, h⟩ := jld_some h
    refine jem_ne (p := v1 = (262 : Int32)) (fun c => ?_) (fun c => ?_)
    · rw [if_neg c] at h
      refine jem_ne (p := v1 = (261 : Int32)) (fun c => ?_) (fun c => ?_)
      · rw [if_neg c] at h
        refine jem_ne (p := v1 = (60 : Int32)) (fun c => ?_) (fun c => ?_)
        · rw [if_neg c] at h
          refine jem_ne (p := v1 = (256 : Int32)) (fun c => ?_) (fun c => ?_)
          · rw [if_neg c] at h
            refine jem_ne (p := v1 = (61 : Int32)) (fun c => ?_) (fun c => ?_)
            · rw [if_neg c] at h
              refine jem_ne (p := v1 = (257 : Int32)) (fun c => ?_) (fun c => ?_)
              · rw [if_neg c] at h
                refine jem_ne (p := v1 = (258 : Int32)) (fun c => ?_) (fun c => ?_)
                · rw [if_neg c] at h
                  refine jem_ne (p := v1 = (62 : Int32)) (fun c => ?_) (fun c => ?_)
                  · rw [if_neg c] at h
                    refine jem_ne (p := v1 = (43 : Int32)) (fun c => ?_) (fun c => ?_)
                    · rw [if_neg c] at h
                      obtain ⟨m4, hm4, g, h⟩ := jst_some h
                      replace hf := jfr_tr hf (jfr_ua hm4 rfl)
                      cases h
                      exact hf
                    · rw [if_pos c] at h
                      obtain ⟨m5, hm5, g, h⟩ := jst_some h
                      replace hf := jfr_tr hf (jfr_ua hm5 rfl)
                      cases h
                      exact hf
                  · rw [if_pos c] at h
                    refine jem (p := x2 ≤ x3) (fun c => ?_) (fun c => ?_)
                    · rw [if_pos c] at h
                      obtain ⟨x6, m7, zm7, h⟩ := jbd_some h
                      replace hf := jfr_tr hf (jfr_sub (W := W_M_is) rfl (fr_M_is zm7))
                      obtain ⟨m8, hm8, g, h⟩ := jst_some h
                      replace hf := jfr_tr hf (jfr_ua hm8 rfl)
                      cases h
                      exact hf
                    · rw [if_neg c] at h
                      obtain ⟨x9, m10, zm10, h⟩ := jbd_some h
                      replace hf := jfr_tr hf (jfr_sub (W := W_M_is) rfl (fr_M_is zm10))
                      obtain ⟨m11, hm11, g, h⟩ := jst_some h
                      replace hf := jfr_tr hf (jfr_ua hm11 rfl)
                      cases h
                      exact hf
                · rw [if_pos c] at h
                  refine jem (p := x2 < x3) (fun c => ?_) (fun c => ?_)
                  · rw [if_pos c] at h
                    obtain ⟨x12, m13, zm13, h⟩ := jbd_some h
                    replace hf := jfr_tr hf (jfr_sub (W := W_M_is) rfl (fr_M_is zm13))
                    obtain ⟨m14, hm14, g, h⟩ := jst_some h
                    replace hf := jfr_tr hf (jfr_ua hm14 rfl)
                    cases h
                    exact hf
                  · rw [if_neg c] at h
                    obtain ⟨x15, m16, zm16, h⟩ := jbd_some h
                    replace hf := jfr_tr hf (jfr_sub (W := W_M_is) rfl (fr_M_is zm16))
                    obtain ⟨m17, hm17, g, h⟩ := jst_some h
                    replace hf := jfr_tr hf (jfr_ua hm17 rfl)
                    cases h
                    exact hf
              · rw [if_pos c] at h
                refine jem (p := x2 = x3) (fun c => ?_) (fun c => ?_)
                · rw [if_pos c] at h
                  obtain ⟨x18, m19, zm19, h⟩ := jbd_some h
                  replace hf := jfr_tr hf (jfr_sub (W := W_M_is) rfl (fr_M_is zm19))
                  obtain ⟨m20, hm20, g, h⟩ := jst_some h
                  replace hf := jfr_tr hf (jfr_ua hm20 rfl)
                  cases h
                  exact hf
                · rw [if_neg c] at h
                  obtain ⟨x21, m22, zm22, h⟩ := jbd_some h
                  replace hf := jfr_tr hf (jfr_sub (W := W_M_is) rfl (fr_M_is zm22))
                  obtain ⟨m23, hm23, g, h⟩ := jst_some h
                  replace hf := jfr_tr hf (jfr_ua hm23 rfl)
                  cases h
                  exact hf
            · rw [if_pos c] at h
              refine jem_ne (p := x2 = x3) (fun c => ?_) (fun c => ?_)
              · rw [if_neg c] at h
                obtain ⟨x24, m25, zm25, h⟩ := jbd_some h
                replace hf := jfr_tr hf (jfr_sub (W := W_M_is) rfl (fr_M_is zm25))
                obtain ⟨m26, hm26, g, h⟩ := jst_some h
                replace hf := jfr_tr hf (jfr_ua hm26 rfl)
                cases h
                exact hf
              · rw [if_pos c] at h
                obtain ⟨x27, m28, zm28, h⟩ := jbd_some h
                replace hf := jfr_tr hf (jfr_sub (W := W_M_is) rfl (fr_M_is zm28))
                obtain ⟨m29, hm29, g, h⟩ := jst_some h
                replace hf := jfr_tr hf (jfr_ua hm29 rfl)
                cases h
                exact hf
          · rw [if_pos c] at h
            refine jem (p := x3 < x2) (fun c => ?_) (fun c => ?_)
            · rw [if_pos c] at h
              obtain ⟨x30, m31, zm31, h⟩ := jbd_some h
              replace hf := jfr_tr hf (jfr_sub (W := W_M_is) rfl (fr_M_is zm31))
              obtain ⟨m32, hm32, g, h⟩ := jst_some h
              replace hf := jfr_tr hf (jfr_ua hm32 rfl)
              cases h
              exact hf
            · rw [if_neg c] at h
              obtain ⟨x33, m34, zm34, h⟩ := jbd_some h
              replace hf := jfr_tr hf (jfr_sub (W := W_M_is) rfl (fr_M_is zm34))
              obtain ⟨m35, hm35, g, h⟩ := jst_some h
              replace hf := jfr_tr hf (jfr_ua hm35 rfl)
              cases h
              exact hf
        · rw [if_pos c] at h
          refine jem (p := x3 ≤ x2) (fun c => ?_) (fun c => ?_)
          · rw [if_pos c] at h
            obtain ⟨x36, m37, zm37, h⟩ := jbd_some h
            replace hf := jfr_tr hf (jfr_sub (W := W_M_is) rfl (fr_M_is zm37))
            obtain ⟨m38, hm38, g, h⟩ := jst_some h
            replace hf := jfr_tr hf (jfr_ua hm38 rfl)
            cases h
            exact hf
          · rw [if_neg c] at h
            obtain ⟨x39, m40, zm40, h⟩ := jbd_some h
            replace hf := jfr_tr hf (jfr_sub (W := W_M_is) rfl (fr_M_is zm40))
            obtain ⟨m41, hm41, g, h⟩ := jst_some h
            replace hf := jfr_tr hf (jfr_ua hm41 rfl)
            cases h
            exact hf
      · rw [if_pos c] at h
        refine jem (p := x2 = 0) (fun c => ?_) (fun c => ?_)
        · rw [if_pos c] at h
          obtain ⟨x42, m43, zm43, h⟩ := jbd_some h
          replace hf := jfr_tr hf (jfr_sub (W := W_M_is) rfl (fr_M_is zm43))
          obtain ⟨m44, hm44, g, h⟩ := jst_some h
          replace hf := jfr_tr hf (jfr_ua hm44 rfl)
          cases h
          exact hf
        · rw [if_neg c] at h
          refine jem (p := x3 = 0) (fun c => ?_) (fun c => ?_)
          · rw [if_pos c] at h
            obtain ⟨x45, m46, zm46, h⟩ := jbd_some h
            replace hf := jfr_tr hf (jfr_sub (W := W_M_is) rfl (fr_M_is zm46))
            obtain ⟨m47, hm47, g, h⟩ := jst_some h
            replace hf := jfr_tr hf (jfr_ua hm47 rfl)
            cases h
            exact hf
          · rw [if_neg c] at h
            obtain ⟨x48, m49, zm49, h⟩ := jbd_some h
            replace hf := jfr_tr hf (jfr_sub (W := W_M_is) rfl (fr_M_is zm49))
            obtain ⟨m50, hm50, g, h⟩ := jst_some h
            replace hf := jfr_tr hf (jfr_ua hm50 rfl)
            cases h
            exact hf
    · rw [if_pos c] at h
      refine jem_ne (p := x2 = 0) (fun c => ?_) (fun c => ?_)
      · rw [if_neg c] at h
        obtain ⟨x51, m52, zm52, h⟩ := jbd_some h
        replace hf := jfr_tr hf (jfr_sub (W := W_M_is) rfl (fr_M_is zm52))
        obtain ⟨m53, hm53, g, h⟩ := jst_some h
        replace hf := jfr_tr hf (jfr_ua hm53 rfl)
        cases h
        exact hf
      · rw [if_pos c] at h
        refine jem (p := x3 = 0) (fun c => ?_) (fun c => ?_)
        · rw [if_pos c] at h
          obtain ⟨x54, m55, zm55, h⟩ := jbd_some h
          replace hf := jfr_tr hf (jfr_sub (W := W_M_is) rfl (fr_M_is zm55))
          obtain ⟨m56, hm56, g, h⟩ := jst_some h
          replace hf := jfr_tr hf (jfr_ua hm56 rfl)
          cases h
          exact hf
        · rw [if_neg c] at h
          obtain ⟨x57, m58, zm58, h⟩ := jbd_some h
          replace hf := jfr_tr hf (jfr_sub (W := W_M_is) rfl (fr_M_is zm58))
          obtain ⟨m59, hm59, g, h⟩ := jst_some h
          replace hf := jfr_tr hf (jfr_ua hm59 rfl)
          cases h
          exact hf
  · rw [if_pos c] at h
    obtain ⟨x60, ex60, g, h⟩ := jld_some h
    refine jem_ne (p := x60 = 0) (fun c => ?_) (fun c => ?_)
    · rw [if_neg c] at h
      obtain ⟨x61, m62, zm62, h⟩ := jbd_some h
      replace hf := jfr_tr hf (jfr_sub (W := W_M_is) rfl (fr_M_is zm62))
      obtain ⟨m63, hm63, g, h⟩ := jst_some h
      replace hf := jfr_tr hf (jfr_ua hm63 rfl)
      cases h
      exact hf
    · rw [if_pos c] at h
      obtain ⟨x64, m65, zm65, h⟩ := jbd_some h
      replace hf := jfr_tr hf (jfr_sub (W := W_M_is) rfl (fr_M_is zm65))
      obtain ⟨m66, hm66, g, h⟩ := jst_some h
      replace hf := jfr_tr hf (jfr_ua hm66 rfl)
      cases h
      exact hf

def W_M_holdsE : List (Nat × Nat) := [(109, 31), (119, 0)]
theorem fr_lp_M_holdsE_12 {m0 : jMem} (v1 : Int32) (k101 : jMem → Option (Int32 × jMem))
    (hk101 : ∀ (m : jMem) (r : (Int32 × jMem)), jfr W_M_holdsE m0 m → k101 m = some r → jfr W_M_holdsE m0 r.2) : ∀ (n : Nat) (v2 : Int32) (m : jMem) (r : (Int32 × jMem)), jfr W_M_holdsE m0 m → lp_M_holdsE_12 v1 k101 n v2 m = some r → jfr W_M_holdsE m0 r.2 := by
  intro n
  induction n with
  | zero => intro v2 m r hf h; unfold lp_M_holdsE_12 at h; cases h
  | succ n ih =>
    intro v2 m r hf h
    unfold lp_M_holdsE_12 at h
    obtain ⟨x3, ex3, g, h⟩ := jld_some h
    refine jem (p := x3 ≤ v2) (fun c => ?_) (fun c => ?_)
    · rw [if_pos c] at h
      exact hk101  m _ hf h
    · rw [if_neg c] at h
      obtain ⟨x4, ex4, g, h⟩ := jld_some h
      refine jem_ne (p := x4 = (2 : Int32)) (fun c => ?_) (fun c => ?_)
      · rw [if_neg c] at h
        obtain ⟨x5, ex5, g, h⟩ := jld_some h
        refine jem_ne (p := x5 = 0) (fun c => ?_) (fun c => ?_)
        · rw [if_neg c] at h
          obtain ⟨x6, ex6, g, h⟩ := jld_some h
          obtain ⟨x7, ex7, g, h⟩ := jld_some h
          obtain ⟨m8, hm8, g, h⟩ := jst_some h
          replace hf := jfr_tr hf (jfr_ua hm8 rfl)
          obtain ⟨m9, hm9, h⟩ := jpu_some h
          replace hf := jfr_tr hf (jfr_up hm9 rfl)
          exact ih (v2 + (1 : Int32)) m9 _ hf h
        · rw [if_pos c] at h
          obtain ⟨x10, ex10, g, h⟩ := jld_some h
          obtain ⟨m11, hm11, g, h⟩ := jst_some h
          replace hf := jfr_tr hf (jfr_ua hm11 rfl)
          obtain ⟨m12, hm12, h⟩ := jpu_some h
          replace hf := jfr_tr hf (jfr_up hm12 rfl)
          exact ih (v2 + (1 : Int32)) m12 _ hf h
      · rw [if_pos c] at h
        obtain ⟨x13, ex13, g, h⟩ := jld_some h
        obtain ⟨u14, m15, zm15, h⟩ := jbd_some h
        replace hf := jfr_tr hf (jfr_sub (W := W_M_does) rfl (fr_M_does zm15))
        exact ih (v2 + (1 : Int32)) m15 _ hf h
theorem fr_M_holdsE {v1 : Int32} {m : jMem} {r : (Int32 × jMem)} (h : f_M_holdsE v1 m = some r) : jfr W_M_holdsE m r.2 := by
  unfold f_M_holdsE at h
  have hf : jfr W_M_holdsE m m := jfr_rf
  obtain ⟨m1, hm1, h⟩ := jpu_some h
  replace hf := jfr_tr hf (jfr_up hm1 rfl)
  obtain ⟨x2, ex2, g, h⟩ := jld_some h
  refine fr_lp_M_holdsE_12 v1 _ ?_ _ x2 m1 _ hf h
  intro m16 r hf h
  obtain ⟨x17, ex17, g, h⟩ := jld_some h
  refine jem (p := x17 = 0) (fun c => ?_) (fun c => ?_)
  · rw [if_pos c] at h
    cases h
    exact hf
  · rw [if_neg c] at h
    cases h
    exact hf

def W_M_isWriter : List (Nat × Nat) := []
theorem fr_M_isWriter {v0 : Int32} {m : jMem} {r : (Int32 × jMem)} (h : f_M_isWriter v0 m = some r) : jfr W_M_isWriter m r.2 := by
  unfold f_M_isWriter at h
  have hf : jfr W_M_isWriter m m := jfr_rf
  refine jem (p := v0 < 0) (fun c => ?_) (fun c => ?_)
  · rw [if_pos c] at h
    cases h
    exact hf
  · rw [if_neg c] at h
    refine jem (p := (6 : Int32) ≤ v0) (fun c => ?_) (fun c => ?_)
    · rw [if_pos c] at h
      cases h
      exact hf
    · rw [if_neg c] at h
      cases h
      exact hf

def W_M_isLetter : List (Nat × Nat) := []
theorem fr_M_isLetter {v1 : Int32} {m : jMem} {r : (Int32 × jMem)} (h : f_M_isLetter v1 m = some r) : jfr W_M_isLetter m r.2 := by
  unfold f_M_isLetter at h
  have hf : jfr W_M_isLetter m m := jfr_rf
  refine jem (p := v1 < 0) (fun c => ?_) (fun c => ?_)
  · rw [if_pos c] at h
    cases h
    exact hf
  · rw [if_neg c] at h
    refine jem (p := (m 109 33) ≤ v1) (fun c => ?_) (fun c => ?_)
    · rw [if_pos c] at h
      cases h
      exact hf
    · rw [if_neg c] at h
      cases h
      exact hf

def W_M_isDay : List (Nat × Nat) := []
theorem fr_M_isDay {v0 : Int32} {m : jMem} {r : (Int32 × jMem)} (h : f_M_isDay v0 m = some r) : jfr W_M_isDay m r.2 := by
  unfold f_M_isDay at h
  have hf : jfr W_M_isDay m m := jfr_rf
  refine jem (p := v0 < 0) (fun c => ?_) (fun c => ?_)
  · rw [if_pos c] at h
    cases h
    exact hf
  · rw [if_neg c] at h
    refine jem (p := (999 : Int32) < v0) (fun c => ?_) (fun c => ?_)
    · rw [if_pos c] at h
      cases h
      exact hf
    · rw [if_neg c] at h
      cases h
      exact hf

def W_M_bits : List (Nat × Nat) := []
theorem fr_lp_M_bits_4 {m0 : jMem} (v0 : Int32) (k24 : Int32 → jMem → Option (Int32 × jMem))
    (hk24 : ∀ (v1 : Int32) (m : jMem) (r : (Int32 × jMem)), jfr W_M_bits m0 m → k24 v1 m = some r → jfr W_M_bits m0 r.2) : ∀ (n : Nat) (v1 : Int32) (v2 : Int32) (m : jMem) (r : (Int32 × jMem)), jfr W_M_bits m0 m → lp_M_bits_4 v0 k24 n v1 v2 m = some r → jfr W_M_bits m0 r.2 := by
  intro n
  induction n with
  | zero => intro v1 v2 m r hf h; unfold lp_M_bits_4 at h; cases h
  | succ n ih =>
    intro v1 v2 m r hf h
    unfold lp_M_bits_4 at h
    refine jem (p := (31 : Int32) ≤ v2) (fun c => ?_) (fun c => ?_)
    · rw [if_pos c] at h
      exact hk24 v1 m _ hf h
    · rw [if_neg c] at h
      exact ih (v1 + ((v0 >>> (v2 &&& 31)) &&& (1 : Int32))) (v2 + (1 : Int32)) m _ hf h
theorem fr_M_bits {v0 : Int32} {m : jMem} {r : (Int32 × jMem)} (h : f_M_bits v0 m = some r) : jfr W_M_bits m r.2 := by
  unfold f_M_bits at h
  have hf : jfr W_M_bits m m := jfr_rf
  refine fr_lp_M_bits_4 v0 _ ?_ _ (0 : Int32) (0 : Int32) m _ hf h
  intro w2 m1 r hf h
  cases h
  exact hf

def W_M_way : List (Nat × Nat) := [(109, 1), (120, 0)]
theorem fr_M_way {v1 : Int32} {v2 : Int32} {v3 : Int32} {m : jMem} {r : (Int32 × jMem)} (h : f_M_way v1 v2 v3 m = some r) : jfr W_M_way m r.2 := by
  unfold f_M_way at h
  have hf : jfr W_M_way m m := jfr_rf
  obtain ⟨m1, hm1, h⟩ := jpu_some h
  replace hf := jfr_tr hf (jfr_up hm1 rfl)
  obtain ⟨x2, m3, zm3, h⟩ := jbd_some h
  replace hf := jfr_tr hf (jfr_sub (W := W_M_isWriter) rfl (fr_M_isWriter zm3))
  refine jem (p := x2 = 0) (fun c => ?_) (fun c => ?_)
  · rw [if_pos c] at h
    cases h
    exact hf
  · rw [if_neg c] at h
    obtain ⟨x4, m5, zm5, h⟩ := jbd_some h
    replace hf := jfr_tr hf (jfr_sub (W := W_M_isWriter) rfl (fr_M_isWriter zm5))
    refine jem (p := x4 = 0) (fun c => ?_) (fun c => ?_)
    · rw [if_pos c] at h
      cases h
      exact hf
    · rw [if_neg c] at h
      refine jem (p := v1 = v2) (fun c => ?_) (fun c => ?_)
      · rw [if_pos c] at h
        cases h
        exact hf
      · rw [if_neg c] at h
        refine jem (p := v3 < (1 : Int32)) (fun c => ?_) (fun c => ?_)
        · rw [if_pos c] at h
          cases h
          exact hf
        · rw [if_neg c] at h
          refine jem (p := v3 ≤ (30 : Int32)) (fun c => ?_) (fun c => ?_)
          · rw [if_pos c] at h
            obtain ⟨m6, hm6, g, h⟩ := jst_some h
            replace hf := jfr_tr hf (jfr_ua hm6 rfl)
            obtain ⟨m7, hm7, g, h⟩ := jst_some h
            replace hf := jfr_tr hf (jfr_ua hm7 rfl)
            cases h
            exact hf
          · rw [if_neg c] at h
            cases h
            exact hf

def W_M_parted : List (Nat × Nat) := []
theorem fr_M_parted {v1 : Int32} {v2 : Int32} {v3 : Int32} {m : jMem} {r : (Int32 × jMem)} (h : f_M_parted v1 v2 v3 m = some r) : jfr W_M_parted m r.2 := by
  unfold f_M_parted at h
  have hf : jfr W_M_parted m m := jfr_rf
  refine jem (p := (((m 109 50) >>> (v1 &&& 31)) &&& (1 : Int32)) = (((m 109 50) >>> (v2 &&& 31)) &&& (1 : Int32))) (fun c => ?_) (fun c => ?_)
  · rw [if_pos c] at h
    cases h
    exact hf
  · rw [if_neg c] at h
    refine jem (p := v3 < (m 109 51)) (fun c => ?_) (fun c => ?_)
    · rw [if_pos c] at h
      cases h
      exact hf
    · rw [if_neg c] at h
      refine jem (p := (m 109 52) < v3) (fun c => ?_) (fun c => ?_)
      · rw [if_pos c] at h
        cases h
        exact hf
      · rw [if_neg c] at h
        cases h
        exact hf

def W_M_post : List (Nat × Nat) := [(109, 45), (130, 0), (131, 0), (132, 0), (133, 0), (134, 0)]
theorem fr_M_post {v1 : Int32} {v2 : Int32} {v3 : Int32} {m : jMem} {r : (Unit × jMem)} (h : f_M_post v1 v2 v3 m = some r) : jfr W_M_post m r.2 := by
  unfold f_M_post at h
  have hf : jfr W_M_post m m := jfr_rf
  obtain ⟨m1, hm1, g, h⟩ := jst_some h
  replace hf := jfr_tr hf (jfr_ua hm1 rfl)
  obtain ⟨m2, hm2, g, h⟩ := jst_some h
  replace hf := jfr_tr hf (jfr_ua hm2 rfl)
  obtain ⟨m3, hm3, g, h⟩ := jst_some h
  replace hf := jfr_tr hf (jfr_ua hm3 rfl)
  obtain ⟨x4, ex4, g, h⟩ := jld_some h
  obtain ⟨x5, m6, zm6, h⟩ := jbd_some h
  replace hf := jfr_tr hf (jfr_sub (W := W_M_parted) rfl (fr_M_parted zm6))
  obtain ⟨m7, hm7, g, h⟩ := jst_some h
  replace hf := jfr_tr hf (jfr_ua hm7 rfl)
  obtain ⟨m8, hm8, g, h⟩ := jst_some h
  replace hf := jfr_tr hf (jfr_ua hm8 rfl)
  obtain ⟨m9, hm9, h⟩ := jpu_some h
  replace hf := jfr_tr hf (jfr_up hm9 rfl)
  cases h
  exact hf
