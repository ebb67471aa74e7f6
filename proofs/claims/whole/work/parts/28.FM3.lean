def W_M_tells : List (Nat × Nat) := [(109, 1), (140, 0), (141, 0)]
theorem fr_M_tells {v1 : Int32} {v2 : Int32} {v3 : Int32} {m : jMem} {r : (Int32 × jMem)} (h : f_M_tells v1 v2 v3 m = some r) : jfr W_M_tells m r.2 := by
  unfold f_M_tells at h
  have hf : jfr W_M_tells m m := jfr_rf
  obtain ⟨m1, hm1, h⟩ := jpu_some h
  replace hf := jfr_tr hf (jfr_up hm1 rfl)
  obtain ⟨x2, m3, zm3, h⟩ := jbd_some h
  replace hf := jfr_tr hf (jfr_sub (W := W_M_isLetter) rfl (fr_M_isLetter zm3))
  refine jem (p := x2 = 0) (fun c => ?_) (fun c => ?_)
  · rw [if_pos c] at h
    cases h
    exact hf
  · rw [if_neg c] at h
    obtain ⟨x4, m5, zm5, h⟩ := jbd_some h
    replace hf := jfr_tr hf (jfr_sub (W := W_M_isLetter) rfl (fr_M_isLetter zm5))
    refine jem (p := x4 = 0) (fun c => ?_) (fun c => ?_)
    · rw [if_pos c] at h
      cases h
      exact hf
    · rw [if_neg c] at h
      refine jem (p := v1 = v2) (fun c => ?_) (fun c => ?_)
      · rw [if_pos c] at h
        cases h
        exact hf
      · rw [if_neg c] at h
        refine jem (p := v3 < 0) (fun c => ?_) (fun c => ?_)
        · rw [if_pos c] at h
          cases h
          exact hf
        · rw [if_neg c] at h
          refine jem (p := v3 ≤ (3 : Int32)) (fun c => ?_) (fun c => ?_)
          · rw [if_pos c] at h
            obtain ⟨u6, m7, zm7, h⟩ := jbd_some h
            replace hf := jfr_tr hf (jfr_sub (W := W_M_bears) rfl (fr_M_bears zm7))
            obtain ⟨x8, m9, zm9, h⟩ := jbd_some h
            replace hf := jfr_tr hf (jfr_sub (W := W_M_isTold) rfl (fr_M_isTold zm9))
            obtain ⟨x10, m11, zm11, h⟩ := jbd_some h
            replace hf := jfr_tr hf (jfr_sub (W := W_M_is) rfl (fr_M_is zm11))
            cases h
            exact hf
          · rw [if_neg c] at h
            cases h
            exact hf

def W_M_errs : List (Nat × Nat) := [(109, 1), (140, 0), (141, 0)]
theorem fr_lp_M_errs_36 {m0 : jMem} (v1 : Int32) (v3 : Int32) (k83 : Int32 → jMem → Option (Int32 × jMem))
    (hk83 : ∀ (v2 : Int32) (m : jMem) (r : (Int32 × jMem)), jfr W_M_errs m0 m → k83 v2 m = some r → jfr W_M_errs m0 r.2) : ∀ (n : Nat) (v2 : Int32) (v4 : Int32) (m : jMem) (r : (Int32 × jMem)), jfr W_M_errs m0 m → lp_M_errs_36 v1 v3 k83 n v2 v4 m = some r → jfr W_M_errs m0 r.2 := by
  intro n
  induction n with
  | zero => intro v2 v4 m r hf h; unfold lp_M_errs_36 at h; cases h
  | succ n ih =>
    intro v2 v4 m r hf h
    unfold lp_M_errs_36 at h
    refine jem (p := (m 109 33) ≤ v4) (fun c => ?_) (fun c => ?_)
    · rw [if_pos c] at h
      exact hk83 v2 m _ hf h
    · rw [if_neg c] at h
      refine jem (p := v3 = v4) (fun c => ?_) (fun c => ?_)
      · rw [if_pos c] at h
        exact ih (v2 + (0 : Int32)) (v4 + (1 : Int32)) m _ hf h
      · rw [if_neg c] at h
        obtain ⟨x4, m5, zm5, h⟩ := jbd_some h
        replace hf := jfr_tr hf (jfr_sub (W := W_M_isTold) rfl (fr_M_isTold zm5))
        obtain ⟨x6, m7, zm7, h⟩ := jbd_some h
        replace hf := jfr_tr hf (jfr_sub (W := W_M_isBefore) rfl (fr_M_isBefore zm7))
        refine jem (p := x4 = x6) (fun c => ?_) (fun c => ?_)
        · rw [if_pos c] at h
          exact ih (v2 + (0 : Int32)) (v4 + (1 : Int32)) m7 _ hf h
        · rw [if_neg c] at h
          exact ih (v2 + (1 : Int32)) (v4 + (1 : Int32)) m7 _ hf h
theorem fr_lp_M_errs_25 {m0 : jMem} (v1 : Int32) (k89 : Int32 → jMem → Option (Int32 × jMem))
    (hk89 : ∀ (v2 : Int32) (m : jMem) (r : (Int32 × jMem)), jfr W_M_errs m0 m → k89 v2 m = some r → jfr W_M_errs m0 r.2) : ∀ (n : Nat) (v2 : Int32) (v3 : Int32) (m : jMem) (r : (Int32 × jMem)), jfr W_M_errs m0 m → lp_M_errs_25 v1 k89 n v2 v3 m = some r → jfr W_M_errs m0 r.2 := by
  intro n
  induction n with
  | zero => intro v2 v3 m r hf h; unfold lp_M_errs_25 at h; cases h
  | succ n ih =>
    intro v2 v3 m r hf h
    unfold lp_M_errs_25 at h
    refine jem (p := (m 109 33) ≤ v3) (fun c => ?_) (fun c => ?_)
    · rw [if_pos c] at h
      exact hk89 v2 m _ hf h
    · rw [if_neg c] at h
      refine fr_lp_M_errs_36 v1 v3 _ ?_ _ v2 (0 : Int32) m _ hf h
      intro w9 m8 r hf h
      exact ih w9 (v3 + (1 : Int32)) m8 _ hf h
theorem fr_M_errs {v1 : Int32} {m : jMem} {r : (Int32 × jMem)} (h : f_M_errs v1 m = some r) : jfr W_M_errs m r.2 := by
  unfold f_M_errs at h
  have hf : jfr W_M_errs m m := jfr_rf
  obtain ⟨m1, hm1, h⟩ := jpu_some h
  replace hf := jfr_tr hf (jfr_up hm1 rfl)
  refine jem (p := v1 < 0) (fun c => ?_) (fun c => ?_)
  · rw [if_pos c] at h
    cases h
    exact hf
  · rw [if_neg c] at h
    refine jem (p := v1 ≤ (3 : Int32)) (fun c => ?_) (fun c => ?_)
    · rw [if_pos c] at h
      obtain ⟨u2, m3, zm3, h⟩ := jbd_some h
      replace hf := jfr_tr hf (jfr_sub (W := W_M_bears) rfl (fr_M_bears zm3))
      refine fr_lp_M_errs_25 v1 _ ?_ _ (0 : Int32) (0 : Int32) m3 _ hf h
      intro w11 m10 r hf h
      cases h
      exact hf
    · rw [if_neg c] at h
      cases h
      exact hf

def W_M_isSet : List (Nat × Nat) := []
theorem fr_M_isSet {v1 : Int32} {m : jMem} {r : (Int32 × jMem)} (h : f_M_isSet v1 m = some r) : jfr W_M_isSet m r.2 := by
  unfold f_M_isSet at h
  have hf : jfr W_M_isSet m m := jfr_rf
  refine jem (p := v1 < 0) (fun c => ?_) (fun c => ?_)
  · rw [if_pos c] at h
    cases h
    exact hf
  · rw [if_neg c] at h
    refine jem (p := ((1 : Int32) <<< ((m 109 33) &&& 31)) ≤ v1) (fun c => ?_) (fun c => ?_)
    · rw [if_pos c] at h
      cases h
      exact hf
    · rw [if_neg c] at h
      cases h
      exact hf

def W_M_joins : List (Nat × Nat) := [(109, 63), (142, 0)]
theorem fr_lp_M_joins_4 {m0 : jMem} {ff : Int32 → Int32 → jMem → Option (Int32 × jMem)} (ihd : ∀ {a b : Int32} {m : jMem} {r : (Int32 × jMem)}, ff a b m = some r → jfr W_M_joins m r.2) (v1 : Int32) (v2 : Int32) (k83 : Int32 → jMem → Option (Int32 × jMem)) (k98 : jMem → Option (Int32 × jMem))
    (hk83 : ∀ (v3 : Int32) (m : jMem) (r : (Int32 × jMem)), jfr W_M_joins m0 m → k83 v3 m = some r → jfr W_M_joins m0 r.2)
    (hk98 : ∀ (m : jMem) (r : (Int32 × jMem)), jfr W_M_joins m0 m → k98 m = some r → jfr W_M_joins m0 r.2) : ∀ (n : Nat) (v3 : Int32) (m : jMem) (r : (Int32 × jMem)), jfr W_M_joins m0 m → lp_M_joins_4 ff v1 v2 k83 k98 n v3 m = some r → jfr W_M_joins m0 r.2 := by
  intro n
  induction n with
  | zero => intro v3 m r hf h; unfold lp_M_joins_4 at h; cases h
  | succ n ih =>
    intro v3 m r hf h
    unfold lp_M_joins_4 at h
    refine jem (p := (m 109 33) ≤ v3) (fun c => ?_) (fun c => ?_)
    · rw [if_pos c] at h
      exact hk98  m _ hf h
    · rw [if_neg c] at h
      refine jem (p := ((v2 >>> (v3 &&& 31)) &&& (1 : Int32)) = 0) (fun c => ?_) (fun c => ?_)
      · rw [if_pos c] at h
        exact ih (v3 + (1 : Int32)) m _ hf h
      · rw [if_neg c] at h
        obtain ⟨x1, m2, zm2, h⟩ := jbd_some h
        replace hf := jfr_tr hf (jfr_sub (W := W_M_isBefore) rfl (fr_M_isBefore zm2))
        refine jem (p := x1 = 0) (fun c => ?_) (fun c => ?_)
        · rw [if_pos c] at h
          exact ih (v3 + (1 : Int32)) m2 _ hf h
        · rw [if_neg c] at h
          refine jem_ne (p := (((m2 109 62) >>> (v3 &&& 31)) &&& (1 : Int32)) = (1 : Int32)) (fun c => ?_) (fun c => ?_)
          · rw [if_neg c] at h
            obtain ⟨m3, hm3, h⟩ := jpu_some h
            replace hf := jfr_tr hf (jfr_up hm3 rfl)
            obtain ⟨x4, ex4, g, h⟩ := jld_some h
            refine jem (p := x4 = (-1 : Int32)) (fun c => ?_) (fun c => ?_)
            · rw [if_pos c] at h
              exact hk83 v3 m3 _ hf h
            · rw [if_neg c] at h
              obtain ⟨x5, ex5, g, h⟩ := jld_some h
              obtain ⟨x6, m7, zm7, h⟩ := jbd_some h
              replace hf := jfr_tr hf (ihd zm7)
              refine jem_ne (p := x6 = 0) (fun c => ?_) (fun c => ?_)
              · rw [if_neg c] at h
                exact hk83 v3 m7 _ hf h
              · rw [if_pos c] at h
                exact ih (v3 + (1 : Int32)) m7 _ hf h
          · rw [if_pos c] at h
            exact ih (v3 + (1 : Int32)) m2 _ hf h
theorem fr_M_joins : ∀ (dd : Nat) {v1 : Int32} {v2 : Int32} {m : jMem} {r : (Int32 × jMem)}, f_M_joins dd v1 v2 m = some r → jfr W_M_joins m r.2 := by
  intro dd
  induction dd with
  | zero => intro v1 v2 m r h; unfold f_M_joins at h; cases h
  | succ dd ihd =>
    intro v1 v2 m r h
    unfold f_M_joins at h
    have hf : jfr W_M_joins m m := jfr_rf
    refine fr_lp_M_joins_4 ihd v1 v2 _ _ ?_ ?_ _ (v1 + (1 : Int32)) m _ hf h
    · intro w9 m8 r hf h
      obtain ⟨m10, hm10, g, h⟩ := jst_some h
      replace hf := jfr_tr hf (jfr_ua hm10 rfl)
      cases h
      exact hf
    · intro m11 r hf h
      cases h
      exact hf

def W_M_chains : List (Nat × Nat) := [(109, 1), (109, 63), (142, 0)]
theorem fr_lp_M_chains_17 {m0 : jMem} (v1 : Int32) (k38 : jMem → Option (Int32 × jMem))
    (hk38 : ∀ (m : jMem) (r : (Int32 × jMem)), jfr W_M_chains m0 m → k38 m = some r → jfr W_M_chains m0 r.2) : ∀ (n : Nat) (v2 : Int32) (m : jMem) (r : (Int32 × jMem)), jfr W_M_chains m0 m → lp_M_chains_17 v1 k38 n v2 m = some r → jfr W_M_chains m0 r.2 := by
  intro n
  induction n with
  | zero => intro v2 m r hf h; unfold lp_M_chains_17 at h; cases h
  | succ n ih =>
    intro v2 m r hf h
    unfold lp_M_chains_17 at h
    refine jem (p := (m 109 33) ≤ v2) (fun c => ?_) (fun c => ?_)
    · rw [if_pos c] at h
      exact hk38  m _ hf h
    · rw [if_neg c] at h
      obtain ⟨m4, hm4, g, h⟩ := jst_some h
      replace hf := jfr_tr hf (jfr_ua hm4 rfl)
      exact ih (v2 + (1 : Int32)) m4 _ hf h
theorem fr_lp_M_chains_45 {m0 : jMem} (v1 : Int32) (k85 : Int32 → jMem → Option (Int32 × jMem))
    (hk85 : ∀ (v2 : Int32) (m : jMem) (r : (Int32 × jMem)), jfr W_M_chains m0 m → k85 v2 m = some r → jfr W_M_chains m0 r.2) : ∀ (n : Nat) (v2 : Int32) (v3 : Int32) (m : jMem) (r : (Int32 × jMem)), jfr W_M_chains m0 m → lp_M_chains_45 v1 k85 n v2 v3 m = some r → jfr W_M_chains m0 r.2 := by
  intro n
  induction n with
  | zero => intro v2 v3 m r hf h; unfold lp_M_chains_45 at h; cases h
  | succ n ih =>
    intro v2 v3 m r hf h
    unfold lp_M_chains_45 at h
    refine jem (p := (m 109 33) ≤ v3) (fun c => ?_) (fun c => ?_)
    · rw [if_pos c] at h
      exact hk85 v2 m _ hf h
    · rw [if_neg c] at h
      obtain ⟨m8, hm8, h⟩ := jpu_some h
      replace hf := jfr_tr hf (jfr_up hm8 rfl)
      refine jem_ne (p := ((v1 >>> (v3 &&& 31)) &&& (1 : Int32)) = (1 : Int32)) (fun c => ?_) (fun c => ?_)
      · rw [if_neg c] at h
        exact ih v2 (v3 + (1 : Int32)) m8 _ hf h
      · rw [if_pos c] at h
        obtain ⟨x9, m10, zm10, h⟩ := jbd_some h
        replace hf := jfr_tr hf (jfr_sub (W := W_M_joins) rfl (fr_M_joins 40 zm10))
        refine jem (p := x9 = 0) (fun c => ?_) (fun c => ?_)
        · rw [if_pos c] at h
          exact ih v2 (v3 + (1 : Int32)) m10 _ hf h
        · rw [if_neg c] at h
          exact ih (v2 + (-1 : Int32)) (v3 + (1 : Int32)) m10 _ hf h
theorem fr_M_chains {v1 : Int32} {m : jMem} {r : (Int32 × jMem)} (h : f_M_chains v1 m = some r) : jfr W_M_chains m r.2 := by
  unfold f_M_chains at h
  have hf : jfr W_M_chains m m := jfr_rf
  obtain ⟨m1, hm1, h⟩ := jpu_some h
  replace hf := jfr_tr hf (jfr_up hm1 rfl)
  obtain ⟨x2, m3, zm3, h⟩ := jbd_some h
  replace hf := jfr_tr hf (jfr_sub (W := W_M_isSet) rfl (fr_M_isSet zm3))
  refine jem_ne (p := x2 = 0) (fun c => ?_) (fun c => ?_)
  · rw [if_neg c] at h
    refine fr_lp_M_chains_17 v1 _ ?_ _ (0 : Int32) m3 _ hf h
    intro m5 r hf h
    obtain ⟨x6, m7, zm7, h⟩ := jbd_some h
    replace hf := jfr_tr hf (jfr_sub (W := W_M_bits) rfl (fr_M_bits zm7))
    refine fr_lp_M_chains_45 v1 _ ?_ _ x6 (0 : Int32) m7 _ hf h
    intro w12 m11 r hf h
    cases h
    exact hf
  · rw [if_pos c] at h
    cases h
    exact hf

def W_M_waits : List (Nat × Nat) := [(109, 1)]
theorem fr_M_waits {v1 : Int32} {v2 : Int32} {m : jMem} {r : (Int32 × jMem)} (h : f_M_waits v1 v2 m = some r) : jfr W_M_waits m r.2 := by
  unfold f_M_waits at h
  have hf : jfr W_M_waits m m := jfr_rf
  obtain ⟨m1, hm1, h⟩ := jpu_some h
  replace hf := jfr_tr hf (jfr_up hm1 rfl)
  obtain ⟨x2, m3, zm3, h⟩ := jbd_some h
  replace hf := jfr_tr hf (jfr_sub (W := W_M_isWriter) rfl (fr_M_isWriter zm3))
  refine jem (p := x2 = 0) (fun c => ?_) (fun c => ?_)
  · rw [if_pos c] at h
    cases h
    exact hf
  · rw [if_neg c] at h
    obtain ⟨x4, m5, zm5, h⟩ := jbd_some h
    replace hf := jfr_tr hf (jfr_sub (W := W_M_deskPlace) rfl (fr_M_deskPlace zm5))
    refine jem_ne (p := x4 = (-1 : Int32)) (fun c => ?_) (fun c => ?_)
    · rw [if_neg c] at h
      obtain ⟨x6, m7, zm7, h⟩ := jbd_some h
      replace hf := jfr_tr hf (jfr_sub (W := W_M_waitsFor) rfl (fr_M_waitsFor zm7))
      cases h
      exact hf
    · rw [if_pos c] at h
      cases h
      exact hf

def W_M_isComing : List (Nat × Nat) := []
theorem fr_lp_M_isComing_2 {m0 : jMem} (v1 : Int32) (v2 : Int32) (k39 : jMem → Option (Int32 × jMem)) (k47 : jMem → Option (Int32 × jMem))
    (hk39 : ∀ (m : jMem) (r : (Int32 × jMem)), jfr W_M_isComing m0 m → k39 m = some r → jfr W_M_isComing m0 r.2)
    (hk47 : ∀ (m : jMem) (r : (Int32 × jMem)), jfr W_M_isComing m0 m → k47 m = some r → jfr W_M_isComing m0 r.2) : ∀ (n : Nat) (v3 : Int32) (m : jMem) (r : (Int32 × jMem)), jfr W_M_isComing m0 m → lp_M_isComing_2 v1 v2 k39 k47 n v3 m = some r → jfr W_M_isComing m0 r.2 := by
  intro n
  induction n with
  | zero => intro v3 m r hf h; unfold lp_M_isComing_2 at h; cases h
  | succ n ih =>
    intro v3 m r hf h
    unfold lp_M_isComing_2 at h
    refine jem (p := (m 109 44) ≤ v3) (fun c => ?_) (fun c => ?_)
    · rw [if_pos c] at h
      exact hk47  m _ hf h
    · rw [if_neg c] at h
      obtain ⟨x1, ex1, g, h⟩ := jld_some h
      refine jem_ne (p := x1 = 0) (fun c => ?_) (fun c => ?_)
      · rw [if_neg c] at h
        exact ih (v3 + (1 : Int32)) m _ hf h
      · rw [if_pos c] at h
        obtain ⟨x2, ex2, g, h⟩ := jld_some h
        refine jem_ne (p := x2 = v1) (fun c => ?_) (fun c => ?_)
        · rw [if_neg c] at h
          exact ih (v3 + (1 : Int32)) m _ hf h
        · rw [if_pos c] at h
          obtain ⟨x3, ex3, g, h⟩ := jld_some h
          refine jem_ne (p := x3 = v2) (fun c => ?_) (fun c => ?_)
          · rw [if_neg c] at h
            exact ih (v3 + (1 : Int32)) m _ hf h
          · rw [if_pos c] at h
            exact hk39  m _ hf h
theorem fr_M_isComing {v1 : Int32} {v2 : Int32} {m : jMem} {r : (Int32 × jMem)} (h : f_M_isComing v1 v2 m = some r) : jfr W_M_isComing m r.2 := by
  unfold f_M_isComing at h
  have hf : jfr W_M_isComing m m := jfr_rf
  refine fr_lp_M_isComing_2 v1 v2 _ _ ?_ ?_ _ (0 : Int32) m _ hf h
  · intro m4 r hf h
    cases h
    exact hf
  · intro m5 r hf h
    cases h
    exact hf

def W_M_ever : List (Nat × Nat) := [(109, 1)]
theorem fr_lp_M_ever_50 {m0 : jMem} (v1 : Int32) (v3 : Int32) (v4 : Int32) (k127 : Int32 → jMem → Option (Int32 × jMem))
    (hk127 : ∀ (v2 : Int32) (m : jMem) (r : (Int32 × jMem)), jfr W_M_ever m0 m → k127 v2 m = some r → jfr W_M_ever m0 r.2) : ∀ (n : Nat) (v2 : Int32) (v5 : Int32) (m : jMem) (r : (Int32 × jMem)), jfr W_M_ever m0 m → lp_M_ever_50 v1 v3 v4 k127 n v2 v5 m = some r → jfr W_M_ever m0 r.2 := by
  intro n
  induction n with
  | zero => intro v2 v5 m r hf h; unfold lp_M_ever_50 at h; cases h
  | succ n ih =>
    intro v2 v5 m r hf h
    unfold lp_M_ever_50 at h
    refine jem (p := v3 ≤ v5) (fun c => ?_) (fun c => ?_)
    · rw [if_pos c] at h
      exact hk127 v2 m _ hf h
    · rw [if_neg c] at h
      refine jem_ne (p := ((v4 >>> (v5 &&& 31)) &&& (1 : Int32)) = 0) (fun c => ?_) (fun c => ?_)
      · rw [if_neg c] at h
        obtain ⟨x8, m9, zm9, h⟩ := jbd_some h
        replace hf := jfr_tr hf (jfr_sub (W := W_M_deskPlace) rfl (fr_M_deskPlace zm9))
        refine jem (p := x8 = (-1 : Int32)) (fun c => ?_) (fun c => ?_)
        · rw [if_pos c] at h
          refine jem (p := (0 : Int32) = 0) (fun c => ?_) (fun c => ?_)
          · rw [if_pos c] at h
            obtain ⟨x10, m11, zm11, h⟩ := jbd_some h
            replace hf := jfr_tr hf (jfr_sub (W := W_M_isComing) rfl (fr_M_isComing zm11))
            refine jem_ne (p := x10 = 0) (fun c => ?_) (fun c => ?_)
            · rw [if_neg c] at h
              exact ih v2 (v5 + (1 : Int32)) m11 _ hf h
            · rw [if_pos c] at h
              exact ih (v2 ||| ((1 : Int32) <<< (v3 &&& 31))) (v5 + (1 : Int32)) m11 _ hf h
          · rw [if_neg c] at h
            refine jem_ne (p := ((v2 >>> (v5 &&& 31)) &&& (1 : Int32)) = (1 : Int32)) (fun c => ?_) (fun c => ?_)
            · rw [if_neg c] at h
              exact ih v2 (v5 + (1 : Int32)) m9 _ hf h
            · rw [if_pos c] at h
              exact ih (v2 ||| ((1 : Int32) <<< (v3 &&& 31))) (v5 + (1 : Int32)) m9 _ hf h
        · rw [if_neg c] at h
          refine jem (p := (1 : Int32) = 0) (fun c => ?_) (fun c => ?_)
          · rw [if_pos c] at h
            obtain ⟨x12, m13, zm13, h⟩ := jbd_some h
            replace hf := jfr_tr hf (jfr_sub (W := W_M_isComing) rfl (fr_M_isComing zm13))
            refine jem_ne (p := x12 = 0) (fun c => ?_) (fun c => ?_)
            · rw [if_neg c] at h
              exact ih v2 (v5 + (1 : Int32)) m13 _ hf h
            · rw [if_pos c] at h
              exact ih (v2 ||| ((1 : Int32) <<< (v3 &&& 31))) (v5 + (1 : Int32)) m13 _ hf h
          · rw [if_neg c] at h
            refine jem_ne (p := ((v2 >>> (v5 &&& 31)) &&& (1 : Int32)) = (1 : Int32)) (fun c => ?_) (fun c => ?_)
            · rw [if_neg c] at h
              exact ih v2 (v5 + (1 : Int32)) m9 _ hf h
            · rw [if_pos c] at h
              exact ih (v2 ||| ((1 : Int32) <<< (v3 &&& 31))) (v5 + (1 : Int32)) m9 _ hf h
      · rw [if_pos c] at h
        exact ih v2 (v5 + (1 : Int32)) m _ hf h
theorem fr_lp_M_ever_18 {m0 : jMem} (v1 : Int32) (k133 : Int32 → jMem → Option (Int32 × jMem))
    (hk133 : ∀ (v2 : Int32) (m : jMem) (r : (Int32 × jMem)), jfr W_M_ever m0 m → k133 v2 m = some r → jfr W_M_ever m0 r.2) : ∀ (n : Nat) (v2 : Int32) (v3 : Int32) (m : jMem) (r : (Int32 × jMem)), jfr W_M_ever m0 m → lp_M_ever_18 v1 k133 n v2 v3 m = some r → jfr W_M_ever m0 r.2 := by
  intro n
  induction n with
  | zero => intro v2 v3 m r hf h; unfold lp_M_ever_18 at h; cases h
  | succ n ih =>
    intro v2 v3 m r hf h
    unfold lp_M_ever_18 at h
    refine jem (p := (m 109 33) ≤ v3) (fun c => ?_) (fun c => ?_)
    · rw [if_pos c] at h
      exact hk133 v2 m _ hf h
    · rw [if_neg c] at h
      obtain ⟨x4, m5, zm5, h⟩ := jbd_some h
      replace hf := jfr_tr hf (jfr_sub (W := W_M_deskPlace) rfl (fr_M_deskPlace zm5))
      refine jem_ne (p := x4 = (-1 : Int32)) (fun c => ?_) (fun c => ?_)
      · rw [if_neg c] at h
        obtain ⟨x6, m7, zm7, h⟩ := jbd_some h
        replace hf := jfr_tr hf (jfr_sub (W := W_M_waitsFor) rfl (fr_M_waitsFor zm7))
        refine fr_lp_M_ever_50 v1 v3 x6 _ ?_ _ v2 (0 : Int32) m7 _ hf h
        intro w15 m14 r hf h
        exact ih w15 (v3 + (1 : Int32)) m14 _ hf h
      · rw [if_pos c] at h
        exact ih v2 (v3 + (1 : Int32)) m5 _ hf h
theorem fr_M_ever {v1 : Int32} {m : jMem} {r : (Int32 × jMem)} (h : f_M_ever v1 m = some r) : jfr W_M_ever m r.2 := by
  unfold f_M_ever at h
  have hf : jfr W_M_ever m m := jfr_rf
  obtain ⟨m1, hm1, h⟩ := jpu_some h
  replace hf := jfr_tr hf (jfr_up hm1 rfl)
  obtain ⟨x2, m3, zm3, h⟩ := jbd_some h
  replace hf := jfr_tr hf (jfr_sub (W := W_M_isWriter) rfl (fr_M_isWriter zm3))
  refine jem_ne (p := x2 = 0) (fun c => ?_) (fun c => ?_)
  · rw [if_neg c] at h
    refine fr_lp_M_ever_18 v1 _ ?_ _ (0 : Int32) (0 : Int32) m3 _ hf h
    intro w17 m16 r hf h
    cases h
    exact hf
  · rw [if_pos c] at h
    cases h
    exact hf

def W_M_has : List (Nat × Nat) := [(109, 1)]
theorem fr_lp_M_has_19 {m0 : jMem} (v1 : Int32) (k46 : Int32 → jMem → Option (Int32 × jMem))
    (hk46 : ∀ (v2 : Int32) (m : jMem) (r : (Int32 × jMem)), jfr W_M_has m0 m → k46 v2 m = some r → jfr W_M_has m0 r.2) : ∀ (n : Nat) (v2 : Int32) (v3 : Int32) (m : jMem) (r : (Int32 × jMem)), jfr W_M_has m0 m → lp_M_has_19 v1 k46 n v2 v3 m = some r → jfr W_M_has m0 r.2 := by
  intro n
  induction n with
  | zero => intro v2 v3 m r hf h; unfold lp_M_has_19 at h; cases h
  | succ n ih =>
    intro v2 v3 m r hf h
    unfold lp_M_has_19 at h
    refine jem (p := (6 : Int32) ≤ v3) (fun c => ?_) (fun c => ?_)
    · rw [if_pos c] at h
      exact hk46 v2 m _ hf h
    · rw [if_neg c] at h
      obtain ⟨x4, ex4, g, h⟩ := jld_some h
      exact ih (v2 ||| (((x4 >>> (v1 &&& 31)) &&& (1 : Int32)) <<< (v3 &&& 31))) (v3 + (1 : Int32)) m _ hf h
theorem fr_M_has {v1 : Int32} {m : jMem} {r : (Int32 × jMem)} (h : f_M_has v1 m = some r) : jfr W_M_has m r.2 := by
  unfold f_M_has at h
  have hf : jfr W_M_has m m := jfr_rf
  obtain ⟨m1, hm1, h⟩ := jpu_some h
  replace hf := jfr_tr hf (jfr_up hm1 rfl)
  obtain ⟨x2, m3, zm3, h⟩ := jbd_some h
  replace hf := jfr_tr hf (jfr_sub (W := W_M_isLetter) rfl (fr_M_isLetter zm3))
  refine jem_ne (p := x2 = 0) (fun c => ?_) (fun c => ?_)
  · rw [if_neg c] at h
    refine fr_lp_M_has_19 v1 _ ?_ _ (0 : Int32) (0 : Int32) m3 _ hf h
    intro w6 m5 r hf h
    cases h
    exact hf
  · rw [if_pos c] at h
    cases h
    exact hf

def W_M_readOn : List (Nat × Nat) := [(109, 1)]
theorem fr_M_readOn {v1 : Int32} {v2 : Int32} {m : jMem} {r : (Int32 × jMem)} (h : f_M_readOn v1 v2 m = some r) : jfr W_M_readOn m r.2 := by
  unfold f_M_readOn at h
  have hf : jfr W_M_readOn m m := jfr_rf
  obtain ⟨m1, hm1, h⟩ := jpu_some h
  replace hf := jfr_tr hf (jfr_up hm1 rfl)
  obtain ⟨x2, m3, zm3, h⟩ := jbd_some h
  replace hf := jfr_tr hf (jfr_sub (W := W_M_isWriter) rfl (fr_M_isWriter zm3))
  refine jem (p := x2 = 0) (fun c => ?_) (fun c => ?_)
  · rw [if_pos c] at h
    cases h
    exact hf
  · rw [if_neg c] at h
    obtain ⟨x4, m5, zm5, h⟩ := jbd_some h
    replace hf := jfr_tr hf (jfr_sub (W := W_M_isLetter) rfl (fr_M_isLetter zm5))
    refine jem (p := x4 = 0) (fun c => ?_) (fun c => ?_)
    · rw [if_pos c] at h
      cases h
      exact hf
    · rw [if_neg c] at h
      obtain ⟨x6, ex6, g, h⟩ := jld_some h
      cases h
      exact hf

def W_M_spread : List (Nat × Nat) := [(109, 1)]
theorem fr_lp_M_spread_27 {m0 : jMem} (v1 : Int32) (v2 : Int32) (k73 : Int32 → jMem → Option (Int32 × jMem))
    (hk73 : ∀ (v3 : Int32) (m : jMem) (r : (Int32 × jMem)), jfr W_M_spread m0 m → k73 v3 m = some r → jfr W_M_spread m0 r.2) : ∀ (n : Nat) (v3 : Int32) (v4 : Int32) (m : jMem) (r : (Int32 × jMem)), jfr W_M_spread m0 m → lp_M_spread_27 v1 v2 k73 n v3 v4 m = some r → jfr W_M_spread m0 r.2 := by
  intro n
  induction n with
  | zero => intro v3 v4 m r hf h; unfold lp_M_spread_27 at h; cases h
  | succ n ih =>
    intro v3 v4 m r hf h
    unfold lp_M_spread_27 at h
    refine jem (p := (6 : Int32) ≤ v4) (fun c => ?_) (fun c => ?_)
    · rw [if_pos c] at h
      exact hk73 v3 m _ hf h
    · rw [if_neg c] at h
      obtain ⟨x6, ex6, g, h⟩ := jld_some h
      refine jem (p := x6 = (-1 : Int32)) (fun c => ?_) (fun c => ?_)
      · rw [if_pos c] at h
        exact ih v3 (v4 + (1 : Int32)) m _ hf h
      · rw [if_neg c] at h
        refine jem (p := v2 < x6) (fun c => ?_) (fun c => ?_)
        · rw [if_pos c] at h
          exact ih v3 (v4 + (1 : Int32)) m _ hf h
        · rw [if_neg c] at h
          exact ih (v3 ||| ((1 : Int32) <<< (v4 &&& 31))) (v4 + (1 : Int32)) m _ hf h
theorem fr_M_spread {v1 : Int32} {v2 : Int32} {m : jMem} {r : (Int32 × jMem)} (h : f_M_spread v1 v2 m = some r) : jfr W_M_spread m r.2 := by
  unfold f_M_spread at h
  have hf : jfr W_M_spread m m := jfr_rf
  obtain ⟨m1, hm1, h⟩ := jpu_some h
  replace hf := jfr_tr hf (jfr_up hm1 rfl)
  obtain ⟨x2, m3, zm3, h⟩ := jbd_some h
  replace hf := jfr_tr hf (jfr_sub (W := W_M_isLetter) rfl (fr_M_isLetter zm3))
  refine jem (p := x2 = 0) (fun c => ?_) (fun c => ?_)
  · rw [if_pos c] at h
    cases h
    exact hf
  · rw [if_neg c] at h
    obtain ⟨x4, m5, zm5, h⟩ := jbd_some h
    replace hf := jfr_tr hf (jfr_sub (W := W_M_isDay) rfl (fr_M_isDay zm5))
    refine jem_ne (p := x4 = 0) (fun c => ?_) (fun c => ?_)
    · rw [if_neg c] at h
      refine fr_lp_M_spread_27 v1 v2 _ ?_ _ (0 : Int32) (0 : Int32) m5 _ hf h
      intro w8 m7 r hf h
      cases h
      exact hf
    · rw [if_pos c] at h
      cases h
      exact hf

def W_M_all : List (Nat × Nat) := [(109, 1)]
theorem fr_lp_M_all_19 {m0 : jMem} (v1 : Int32) (k60 : jMem → Option (Int32 × jMem)) (k75 : Int32 → jMem → Option (Int32 × jMem))
    (hk60 : ∀ (m : jMem) (r : (Int32 × jMem)), jfr W_M_all m0 m → k60 m = some r → jfr W_M_all m0 r.2)
    (hk75 : ∀ (v2 : Int32) (m : jMem) (r : (Int32 × jMem)), jfr W_M_all m0 m → k75 v2 m = some r → jfr W_M_all m0 r.2) : ∀ (n : Nat) (v2 : Int32) (v3 : Int32) (m : jMem) (r : (Int32 × jMem)), jfr W_M_all m0 m → lp_M_all_19 v1 k60 k75 n v2 v3 m = some r → jfr W_M_all m0 r.2 := by
  intro n
  induction n with
  | zero => intro v2 v3 m r hf h; unfold lp_M_all_19 at h; cases h
  | succ n ih =>
    intro v2 v3 m r hf h
    unfold lp_M_all_19 at h
    refine jem (p := (6 : Int32) ≤ v3) (fun c => ?_) (fun c => ?_)
    · rw [if_pos c] at h
      exact hk75 v2 m _ hf h
    · rw [if_neg c] at h
      obtain ⟨x4, ex4, g, h⟩ := jld_some h
      refine jem_ne (p := ((x4 >>> (v3 &&& 31)) &&& (1 : Int32)) = 0) (fun c => ?_) (fun c => ?_)
      · rw [if_neg c] at h
        obtain ⟨x5, ex5, g, h⟩ := jld_some h
        refine jem_ne (p := x5 = (-1 : Int32)) (fun c => ?_) (fun c => ?_)
        · rw [if_neg c] at h
          exact ih (jmax v2 x5) (v3 + (1 : Int32)) m _ hf h
        · rw [if_pos c] at h
          exact hk60  m _ hf h
      · rw [if_pos c] at h
        exact ih v2 (v3 + (1 : Int32)) m _ hf h
theorem fr_M_all {v1 : Int32} {m : jMem} {r : (Int32 × jMem)} (h : f_M_all v1 m = some r) : jfr W_M_all m r.2 := by
  unfold f_M_all at h
  have hf : jfr W_M_all m m := jfr_rf
  obtain ⟨m1, hm1, h⟩ := jpu_some h
  replace hf := jfr_tr hf (jfr_up hm1 rfl)
  obtain ⟨x2, m3, zm3, h⟩ := jbd_some h
  replace hf := jfr_tr hf (jfr_sub (W := W_M_isLetter) rfl (fr_M_isLetter zm3))
  refine jem_ne (p := x2 = 0) (fun c => ?_) (fun c => ?_)
  · rw [if_neg c] at h
    refine fr_lp_M_all_19 v1 _ _ ?_ ?_ _ (0 : Int32) (0 : Int32) m3 _ hf h
    · intro m6 r hf h
      cases h
      exact hf
    · intro w8 m7 r hf h
      cases h
      exact hf
  · rw [if_pos c] at h
    cases h
    exact hf

def W_M_burn : List (Nat × Nat) := [(109, 1), (109, 44), (129, 0)]
theorem fr_M_burn {v1 : Int32} {m : jMem} {r : (Int32 × jMem)} (h : f_M_burn v1 m = some r) : jfr W_M_burn m r.2 := by
  unfold f_M_burn at h
  have hf : jfr W_M_burn m m := jfr_rf
  obtain ⟨m1, hm1, h⟩ := jpu_some h
  replace hf := jfr_tr hf (jfr_up hm1 rfl)
  obtain ⟨x2, m3, zm3, h⟩ := jbd_some h
  replace hf := jfr_tr hf (jfr_sub (W := W_M_isLetter) rfl (fr_M_isLetter zm3))
  refine jem (p := x2 = 0) (fun c => ?_) (fun c => ?_)
  · rw [if_pos c] at h
    cases h
    exact hf
  · rw [if_neg c] at h
    obtain ⟨x4, ex4, g, h⟩ := jld_some h
    refine jem (p := x4 = 0) (fun c => ?_) (fun c => ?_)
    · rw [if_pos c] at h
      obtain ⟨m5, hm5, g, h⟩ := jst_some h
      replace hf := jfr_tr hf (jfr_ua hm5 rfl)
      obtain ⟨m6, hm6, h⟩ := jpu_some h
      replace hf := jfr_tr hf (jfr_up hm6 rfl)
      cases h
      exact hf
    · rw [if_neg c] at h
      cases h
      exact hf

def W_M_sums : List (Nat × Nat) := [(143, 0)]
theorem fr_lp_M_sums_2 {m0 : jMem} (k29 : jMem → Option (Unit × jMem))
    (hk29 : ∀ (m : jMem) (r : (Unit × jMem)), jfr W_M_sums m0 m → k29 m = some r → jfr W_M_sums m0 r.2) : ∀ (n : Nat) (v1 : Int32) (m : jMem) (r : (Unit × jMem)), jfr W_M_sums m0 m → lp_M_sums_2 k29 n v1 m = some r → jfr W_M_sums m0 r.2 := by
  intro n
  induction n with
  | zero => intro v1 m r hf h; unfold lp_M_sums_2 at h; cases h
  | succ n ih =>
    intro v1 m r hf h
    unfold lp_M_sums_2 at h
    refine jem (p := (36 : Int32) ≤ v1) (fun c => ?_) (fun c => ?_)
    · rw [if_pos c] at h
      exact hk29  m _ hf h
    · rw [if_neg c] at h
      obtain ⟨x1, ex1, g, h⟩ := jld_some h
      obtain ⟨m2, hm2, g, h⟩ := jst_some h
      replace hf := jfr_tr hf (jfr_ua hm2 rfl)
      exact ih (v1 + (1 : Int32)) m2 _ hf h
theorem fr_lp_M_sums_47 {m0 : jMem} (v1 : Int32) (v2 : Int32) (k107 : jMem → Option (Unit × jMem))
    (hk107 : ∀ (m : jMem) (r : (Unit × jMem)), jfr W_M_sums m0 m → k107 m = some r → jfr W_M_sums m0 r.2) : ∀ (n : Nat) (v3 : Int32) (m : jMem) (r : (Unit × jMem)), jfr W_M_sums m0 m → lp_M_sums_47 v1 v2 k107 n v3 m = some r → jfr W_M_sums m0 r.2 := by
  intro n
  induction n with
  | zero => intro v3 m r hf h; unfold lp_M_sums_47 at h; cases h
  | succ n ih =>
    intro v3 m r hf h
    unfold lp_M_sums_47 at h
    refine jem (p := (6 : Int32) ≤ v3) (fun c => ?_) (fun c => ?_)
    · rw [if_pos c] at h
      exact hk107  m _ hf h
    · rw [if_neg c] at h
      obtain ⟨x4, ex4, g, h⟩ := jld_some h
      obtain ⟨x5, ex5, g, h⟩ := jld_some h
      obtain ⟨x6, ex6, g, h⟩ := jld_some h
      obtain ⟨m7, hm7, g, h⟩ := jst_some h
      replace hf := jfr_tr hf (jfr_ua hm7 rfl)
      exact ih (v3 + (1 : Int32)) m7 _ hf h
theorem fr_lp_M_sums_39 {m0 : jMem} (v1 : Int32) (k113 : jMem → Option (Unit × jMem))
    (hk113 : ∀ (m : jMem) (r : (Unit × jMem)), jfr W_M_sums m0 m → k113 m = some r → jfr W_M_sums m0 r.2) : ∀ (n : Nat) (v2 : Int32) (m : jMem) (r : (Unit × jMem)), jfr W_M_sums m0 m → lp_M_sums_39 v1 k113 n v2 m = some r → jfr W_M_sums m0 r.2 := by
  intro n
  induction n with
  | zero => intro v2 m r hf h; unfold lp_M_sums_39 at h; cases h
  | succ n ih =>
    intro v2 m r hf h
    unfold lp_M_sums_39 at h
    refine jem (p := (6 : Int32) ≤ v2) (fun c => ?_) (fun c => ?_)
    · rw [if_pos c] at h
      exact hk113  m _ hf h
    · rw [if_neg c] at h
      refine fr_lp_M_sums_47 v1 v2 _ ?_ _ (0 : Int32) m _ hf h
      intro m8 r hf h
      exact ih (v2 + (1 : Int32)) m8 _ hf h
theorem fr_lp_M_sums_31 {m0 : jMem} (k119 : jMem → Option (Unit × jMem))
    (hk119 : ∀ (m : jMem) (r : (Unit × jMem)), jfr W_M_sums m0 m → k119 m = some r → jfr W_M_sums m0 r.2) : ∀ (n : Nat) (v1 : Int32) (m : jMem) (r : (Unit × jMem)), jfr W_M_sums m0 m → lp_M_sums_31 k119 n v1 m = some r → jfr W_M_sums m0 r.2 := by
  intro n
  induction n with
  | zero => intro v1 m r hf h; unfold lp_M_sums_31 at h; cases h
  | succ n ih =>
    intro v1 m r hf h
    unfold lp_M_sums_31 at h
    refine jem (p := (6 : Int32) ≤ v1) (fun c => ?_) (fun c => ?_)
    · rw [if_pos c] at h
      exact hk119  m _ hf h
    · rw [if_neg c] at h
      refine fr_lp_M_sums_39 v1 _ ?_ _ (0 : Int32) m _ hf h
      intro m9 r hf h
      exact ih (v1 + (1 : Int32)) m9 _ hf h
theorem fr_M_sums {m : jMem} {r : (Unit × jMem)} (h : f_M_sums m = some r) : jfr W_M_sums m r.2 := by
  unfold f_M_sums at h
  have hf : jfr W_M_sums m m := jfr_rf
  refine fr_lp_M_sums_2 _ ?_ _ (0 : Int32) m _ hf h
  intro m3 r hf h
  refine fr_lp_M_sums_31 _ ?_ _ (0 : Int32) m3 _ hf h
  intro m10 r hf h
  cases h
  exact hf

def W_M_could : List (Nat × Nat) := [(109, 1), (141, 0), (143, 0)]
theorem fr_M_could {v1 : Int32} {v2 : Int32} {m : jMem} {r : (Int32 × jMem)} (h : f_M_could v1 v2 m = some r) : jfr W_M_could m r.2 := by
  unfold f_M_could at h
  have hf : jfr W_M_could m m := jfr_rf
  obtain ⟨m1, hm1, h⟩ := jpu_some h
  replace hf := jfr_tr hf (jfr_up hm1 rfl)
  obtain ⟨x2, m3, zm3, h⟩ := jbd_some h
  replace hf := jfr_tr hf (jfr_sub (W := W_M_isLetter) rfl (fr_M_isLetter zm3))
  refine jem (p := x2 = 0) (fun c => ?_) (fun c => ?_)
  · rw [if_pos c] at h
    cases h
    exact hf
  · rw [if_neg c] at h
    obtain ⟨x4, m5, zm5, h⟩ := jbd_some h
    replace hf := jfr_tr hf (jfr_sub (W := W_M_isLetter) rfl (fr_M_isLetter zm5))
    refine jem (p := x4 = 0) (fun c => ?_) (fun c => ?_)
    · rw [if_pos c] at h
      cases h
      exact hf
    · rw [if_neg c] at h
      refine jem (p := v1 = v2) (fun c => ?_) (fun c => ?_)
      · rw [if_pos c] at h
        cases h
        exact hf
      · rw [if_neg c] at h
        obtain ⟨x6, ex6, g, h⟩ := jld_some h
        refine jem_ne (p := x6 = 0) (fun c => ?_) (fun c => ?_)
        · rw [if_neg c] at h
          cases h
          exact hf
        · rw [if_pos c] at h
          obtain ⟨x7, ex7, g, h⟩ := jld_some h
          refine jem (p := x7 = 0) (fun c => ?_) (fun c => ?_)
          · rw [if_pos c] at h
            obtain ⟨u8, m9, zm9, h⟩ := jbd_some h
            replace hf := jfr_tr hf (jfr_sub (W := W_M_byAnswers) rfl (fr_M_byAnswers zm9))
            obtain ⟨x10, ex10, g, h⟩ := jld_some h
            refine jem_ne (p := ((x10 >>> (v1 &&& 31)) &&& (1 : Int32)) = (1 : Int32)) (fun c => ?_) (fun c => ?_)
            · rw [if_neg c] at h
              obtain ⟨u11, m12, zm12, h⟩ := jbd_some h
              replace hf := jfr_tr hf (jfr_sub (W := W_M_sums) rfl (fr_M_sums zm12))
              obtain ⟨x13, ex13, g, h⟩ := jld_some h
              obtain ⟨x14, ex14, g, h⟩ := jld_some h
              refine jem_ne (p := x13 = x14) (fun c => ?_) (fun c => ?_)
              · rw [if_neg c] at h
                obtain ⟨x15, ex15, g, h⟩ := jld_some h
                obtain ⟨x16, ex16, g, h⟩ := jld_some h
                obtain ⟨x17, ex17, g, h⟩ := jld_some h
                obtain ⟨x18, ex18, g, h⟩ := jld_some h
                obtain ⟨x19, ex19, g, h⟩ := jld_some h
                refine jem (p := (x15 - x16) < x19) (fun c => ?_) (fun c => ?_)
                · rw [if_pos c] at h
                  obtain ⟨x20, m21, zm21, h⟩ := jbd_some h
                  replace hf := jfr_tr hf (jfr_sub (W := W_M_is) rfl (fr_M_is zm21))
                  cases h
                  exact hf
                · rw [if_neg c] at h
                  obtain ⟨x22, m23, zm23, h⟩ := jbd_some h
                  replace hf := jfr_tr hf (jfr_sub (W := W_M_is) rfl (fr_M_is zm23))
                  cases h
                  exact hf
              · rw [if_pos c] at h
                refine jem (p := v2 ≤ v1) (fun c => ?_) (fun c => ?_)
                · rw [if_pos c] at h
                  obtain ⟨x24, m25, zm25, h⟩ := jbd_some h
                  replace hf := jfr_tr hf (jfr_sub (W := W_M_is) rfl (fr_M_is zm25))
                  cases h
                  exact hf
                · rw [if_neg c] at h
                  obtain ⟨x26, m27, zm27, h⟩ := jbd_some h
                  replace hf := jfr_tr hf (jfr_sub (W := W_M_is) rfl (fr_M_is zm27))
                  cases h
                  exact hf
            · rw [if_pos c] at h
              cases h
              exact hf
          · rw [if_neg c] at h
            cases h
            exact hf

def W_M_listed : List (Nat × Nat) := []
theorem fr_M_listed {v0 : Int32} {v1 : Int32} {m : jMem} {r : (Int32 × jMem)} (h : f_M_listed v0 v1 m = some r) : jfr W_M_listed m r.2 := by
  unfold f_M_listed at h
  have hf : jfr W_M_listed m m := jfr_rf
  cases h
  exact hf

def W_M_manyBy : List (Nat × Nat) := []
theorem fr_lp_M_manyBy_5 {m0 : jMem} (v1 : Int32) (v2 : Int32) (k50 : Int32 → jMem → Option (Int32 × jMem))
    (hk50 : ∀ (v3 : Int32) (m : jMem) (r : (Int32 × jMem)), jfr W_M_manyBy m0 m → k50 v3 m = some r → jfr W_M_manyBy m0 r.2) : ∀ (n : Nat) (v3 : Int32) (v4 : Int32) (m : jMem) (r : (Int32 × jMem)), jfr W_M_manyBy m0 m → lp_M_manyBy_5 v1 v2 k50 n v3 v4 m = some r → jfr W_M_manyBy m0 r.2 := by
  intro n
  induction n with
  | zero => intro v3 v4 m r hf h; unfold lp_M_manyBy_5 at h; cases h
  | succ n ih =>
    intro v3 v4 m r hf h
    unfold lp_M_manyBy_5 at h
    refine jem (p := (m 109 33) ≤ v4) (fun c => ?_) (fun c => ?_)
    · rw [if_pos c] at h
      exact hk50 v3 m _ hf h
    · rw [if_neg c] at h
      obtain ⟨x1, ex1, g, h⟩ := jld_some h
      refine jem_ne (p := x1 = v1) (fun c => ?_) (fun c => ?_)
      · rw [if_neg c] at h
        exact ih (v3 + (0 : Int32)) (v4 + (1 : Int32)) m _ hf h
      · rw [if_pos c] at h
        obtain ⟨x2, ex2, g, h⟩ := jld_some h
        refine jem (p := v2 < x2) (fun c => ?_) (fun c => ?_)
        · rw [if_pos c] at h
          exact ih (v3 + (0 : Int32)) (v4 + (1 : Int32)) m _ hf h
        · rw [if_neg c] at h
          exact ih (v3 + (1 : Int32)) (v4 + (1 : Int32)) m _ hf h
theorem fr_M_manyBy {v1 : Int32} {v2 : Int32} {m : jMem} {r : (Int32 × jMem)} (h : f_M_manyBy v1 v2 m = some r) : jfr W_M_manyBy m r.2 := by
  unfold f_M_manyBy at h
  have hf : jfr W_M_manyBy m m := jfr_rf
  refine fr_lp_M_manyBy_5 v1 v2 _ ?_ _ (0 : Int32) (0 : Int32) m _ hf h
  intro w4 m3 r hf h
  cases h
  exact hf

def W_M_letterOf : List (Nat × Nat) := []
theorem fr_lp_M_letterOf_5 {m0 : jMem} (v1 : Int32) (v2 : Int32) (k49 : Int32 → jMem → Option (Int32 × jMem)) (k58 : jMem → Option (Int32 × jMem))
    (hk49 : ∀ (v4 : Int32) (m : jMem) (r : (Int32 × jMem)), jfr W_M_letterOf m0 m → k49 v4 m = some r → jfr W_M_letterOf m0 r.2)
    (hk58 : ∀ (m : jMem) (r : (Int32 × jMem)), jfr W_M_letterOf m0 m → k58 m = some r → jfr W_M_letterOf m0 r.2) : ∀ (n : Nat) (v3 : Int32) (v4 : Int32) (m : jMem) (r : (Int32 × jMem)), jfr W_M_letterOf m0 m → lp_M_letterOf_5 v1 v2 k49 k58 n v3 v4 m = some r → jfr W_M_letterOf m0 r.2 := by
  intro n
  induction n with
  | zero => intro v3 v4 m r hf h; unfold lp_M_letterOf_5 at h; cases h
  | succ n ih =>
    intro v3 v4 m r hf h
    unfold lp_M_letterOf_5 at h
    refine jem (p := (m 109 33) ≤ v4) (fun c => ?_) (fun c => ?_)
    · rw [if_pos c] at h
      exact hk58  m _ hf h
    · rw [if_neg c] at h
      obtain ⟨x1, ex1, g, h⟩ := jld_some h
      refine jem_ne (p := x1 = v1) (fun c => ?_) (fun c => ?_)
      · rw [if_neg c] at h
        refine jem_ne (p := (v3 + (0 : Int32)) = v2) (fun c => ?_) (fun c => ?_)
        · rw [if_neg c] at h
          exact ih (v3 + (0 : Int32)) (v4 + (1 : Int32)) m _ hf h
        · rw [if_pos c] at h
          obtain ⟨x2, ex2, g, h⟩ := jld_some h
          refine jem_ne (p := x2 = v1) (fun c => ?_) (fun c => ?_)
          · rw [if_neg c] at h
            exact ih (v3 + (0 : Int32)) (v4 + (1 : Int32)) m _ hf h
          · rw [if_pos c] at h
            exact hk49 v4 m _ hf h
      · rw [if_pos c] at h
        refine jem_ne (p := (v3 + (1 : Int32)) = v2) (fun c => ?_) (fun c => ?_)
        · rw [if_neg c] at h
          exact ih (v3 + (1 : Int32)) (v4 + (1 : Int32)) m _ hf h
        · rw [if_pos c] at h
          obtain ⟨x3, ex3, g, h⟩ := jld_some h
          refine jem_ne (p := x3 = v1) (fun c => ?_) (fun c => ?_)
          · rw [if_neg c] at h
            exact ih (v3 + (1 : Int32)) (v4 + (1 : Int32)) m _ hf h
          · rw [if_pos c] at h
            exact hk49 v4 m _ hf h
theorem fr_M_letterOf {v1 : Int32} {v2 : Int32} {m : jMem} {r : (Int32 × jMem)} (h : f_M_letterOf v1 v2 m = some r) : jfr W_M_letterOf m r.2 := by
  unfold f_M_letterOf at h
  have hf : jfr W_M_letterOf m m := jfr_rf
  refine fr_lp_M_letterOf_5 v1 v2 _ _ ?_ ?_ _ (0 : Int32) (0 : Int32) m _ hf h
  · intro w5 m4 r hf h
    cases h
    exact hf
  · intro m6 r hf h
    cases h
    exact hf

def W_M_isMore : List (Nat × Nat) := []
theorem fr_lp_M_isMore_2 {m0 : jMem} (v1 : Int32) (v2 : Int32) (k22 : jMem → Option (Int32 × jMem)) (k30 : jMem → Option (Int32 × jMem))
    (hk22 : ∀ (m : jMem) (r : (Int32 × jMem)), jfr W_M_isMore m0 m → k22 m = some r → jfr W_M_isMore m0 r.2)
    (hk30 : ∀ (m : jMem) (r : (Int32 × jMem)), jfr W_M_isMore m0 m → k30 m = some r → jfr W_M_isMore m0 r.2) : ∀ (n : Nat) (v3 : Int32) (m : jMem) (r : (Int32 × jMem)), jfr W_M_isMore m0 m → lp_M_isMore_2 v1 v2 k22 k30 n v3 m = some r → jfr W_M_isMore m0 r.2 := by
  intro n
  induction n with
  | zero => intro v3 m r hf h; unfold lp_M_isMore_2 at h; cases h
  | succ n ih =>
    intro v3 m r hf h
    unfold lp_M_isMore_2 at h
    refine jem (p := (6 : Int32) ≤ v3) (fun c => ?_) (fun c => ?_)
    · rw [if_pos c] at h
      exact hk30  m _ hf h
    · rw [if_neg c] at h
      obtain ⟨x1, m2, zm2, h⟩ := jbd_some h
      replace hf := jfr_tr hf (jfr_sub (W := W_M_numberOf) rfl (fr_M_numberOf zm2))
      obtain ⟨x3, m4, zm4, h⟩ := jbd_some h
      replace hf := jfr_tr hf (jfr_sub (W := W_M_listed) rfl (fr_M_listed zm4))
      refine jem (p := x1 ≤ x3) (fun c => ?_) (fun c => ?_)
      · rw [if_pos c] at h
        exact ih (v3 + (1 : Int32)) m4 _ hf h
      · rw [if_neg c] at h
        exact hk22  m4 _ hf h
theorem fr_M_isMore {v1 : Int32} {v2 : Int32} {m : jMem} {r : (Int32 × jMem)} (h : f_M_isMore v1 v2 m = some r) : jfr W_M_isMore m r.2 := by
  unfold f_M_isMore at h
  have hf : jfr W_M_isMore m m := jfr_rf
  refine fr_lp_M_isMore_2 v1 v2 _ _ ?_ ?_ _ (0 : Int32) m _ hf h
  · intro m5 r hf h
    cases h
    exact hf
  · intro m6 r hf h
    cases h
    exact hf

def W_M_forgedBy : List (Nat × Nat) := []
theorem fr_lp_M_forgedBy_3 {m0 : jMem} (v1 : Int32) (v2 : Int32) (v3 : Int32) (k60 : jMem → Option (Int32 × jMem)) (k68 : jMem → Option (Int32 × jMem))
    (hk60 : ∀ (m : jMem) (r : (Int32 × jMem)), jfr W_M_forgedBy m0 m → k60 m = some r → jfr W_M_forgedBy m0 r.2)
    (hk68 : ∀ (m : jMem) (r : (Int32 × jMem)), jfr W_M_forgedBy m0 m → k68 m = some r → jfr W_M_forgedBy m0 r.2) : ∀ (n : Nat) (v4 : Int32) (m : jMem) (r : (Int32 × jMem)), jfr W_M_forgedBy m0 m → lp_M_forgedBy_3 v1 v2 v3 k60 k68 n v4 m = some r → jfr W_M_forgedBy m0 r.2 := by
  intro n
  induction n with
  | zero => intro v4 m r hf h; unfold lp_M_forgedBy_3 at h; cases h
  | succ n ih =>
    intro v4 m r hf h
    unfold lp_M_forgedBy_3 at h
    refine jem (p := (6 : Int32) ≤ v4) (fun c => ?_) (fun c => ?_)
    · rw [if_pos c] at h
      exact hk68  m _ hf h
    · rw [if_neg c] at h
      refine jem_ne (p := v4 = v1) (fun c => ?_) (fun c => ?_)
      · rw [if_neg c] at h
        obtain ⟨x1, ex1, g, h⟩ := jld_some h
        obtain ⟨x2, m3, zm3, h⟩ := jbd_some h
        replace hf := jfr_tr hf (jfr_sub (W := W_M_manyBy) rfl (fr_M_manyBy zm3))
        obtain ⟨x4, m5, zm5, h⟩ := jbd_some h
        replace hf := jfr_tr hf (jfr_sub (W := W_M_listed) rfl (fr_M_listed zm5))
        refine jem (p := x4 ≤ x2) (fun c => ?_) (fun c => ?_)
        · rw [if_pos c] at h
          exact ih (v4 + (1 : Int32)) m5 _ hf h
        · rw [if_neg c] at h
          exact hk60  m5 _ hf h
      · rw [if_pos c] at h
        obtain ⟨x6, m7, zm7, h⟩ := jbd_some h
        replace hf := jfr_tr hf (jfr_sub (W := W_M_manyBy) rfl (fr_M_manyBy zm7))
        obtain ⟨x8, m9, zm9, h⟩ := jbd_some h
        replace hf := jfr_tr hf (jfr_sub (W := W_M_listed) rfl (fr_M_listed zm9))
        refine jem (p := x8 ≤ (x6 + (1 : Int32))) (fun c => ?_) (fun c => ?_)
        · rw [if_pos c] at h
          exact ih (v4 + (1 : Int32)) m9 _ hf h
        · rw [if_neg c] at h
          exact hk60  m9 _ hf h
theorem fr_lp_M_forgedBy_71 {m0 : jMem} (v1 : Int32) (v2 : Int32) (v3 : Int32) (k138 : jMem → Option (Int32 × jMem)) (k146 : jMem → Option (Int32 × jMem))
    (hk138 : ∀ (m : jMem) (r : (Int32 × jMem)), jfr W_M_forgedBy m0 m → k138 m = some r → jfr W_M_forgedBy m0 r.2)
    (hk146 : ∀ (m : jMem) (r : (Int32 × jMem)), jfr W_M_forgedBy m0 m → k146 m = some r → jfr W_M_forgedBy m0 r.2) : ∀ (n : Nat) (v4 : Int32) (m : jMem) (r : (Int32 × jMem)), jfr W_M_forgedBy m0 m → lp_M_forgedBy_71 v1 v2 v3 k138 k146 n v4 m = some r → jfr W_M_forgedBy m0 r.2 := by
  intro n
  induction n with
  | zero => intro v4 m r hf h; unfold lp_M_forgedBy_71 at h; cases h
  | succ n ih =>
    intro v4 m r hf h
    unfold lp_M_forgedBy_71 at h
    refine jem (p := (6 : Int32) ≤ v4) (fun c => ?_) (fun c => ?_)
    · rw [if_pos c] at h
      exact hk146  m _ hf h
    · rw [if_neg c] at h
      obtain ⟨x12, m13, zm13, h⟩ := jbd_some h
      replace hf := jfr_tr hf (jfr_sub (W := W_M_listed) rfl (fr_M_listed zm13))
      refine jem_ne (p := x12 = 0) (fun c => ?_) (fun c => ?_)
      · rw [if_neg c] at h
        obtain ⟨x14, m15, zm15, h⟩ := jbd_some h
        replace hf := jfr_tr hf (jfr_sub (W := W_M_listed) rfl (fr_M_listed zm15))
        obtain ⟨x16, m17, zm17, h⟩ := jbd_some h
        replace hf := jfr_tr hf (jfr_sub (W := W_M_letterOf) rfl (fr_M_letterOf zm17))
        refine jem (p := x16 = (-1 : Int32)) (fun c => ?_) (fun c => ?_)
        · rw [if_pos c] at h
          exact ih (v4 + (1 : Int32)) m17 _ hf h
        · rw [if_neg c] at h
          refine jem_ne (p := v4 = v1) (fun c => ?_) (fun c => ?_)
          · rw [if_neg c] at h
            obtain ⟨x18, m19, zm19, h⟩ := jbd_some h
            replace hf := jfr_tr hf (jfr_sub (W := W_M_isMore) rfl (fr_M_isMore zm19))
            refine jem (p := x18 = 0) (fun c => ?_) (fun c => ?_)
            · rw [if_pos c] at h
              exact ih (v4 + (1 : Int32)) m19 _ hf h
            · rw [if_neg c] at h
              exact hk138  m19 _ hf h
          · rw [if_pos c] at h
            obtain ⟨x20, ex20, g, h⟩ := jld_some h
            refine jem (p := v2 < x20) (fun c => ?_) (fun c => ?_)
            · rw [if_pos c] at h
              exact ih (v4 + (1 : Int32)) m17 _ hf h
            · rw [if_neg c] at h
              obtain ⟨x21, m22, zm22, h⟩ := jbd_some h
              replace hf := jfr_tr hf (jfr_sub (W := W_M_isMore) rfl (fr_M_isMore zm22))
              refine jem (p := x21 = 0) (fun c => ?_) (fun c => ?_)
              · rw [if_pos c] at h
                exact ih (v4 + (1 : Int32)) m22 _ hf h
              · rw [if_neg c] at h
                exact hk138  m22 _ hf h
      · rw [if_pos c] at h
        refine jem (p := (-1 : Int32) = (-1 : Int32)) (fun c => ?_) (fun c => ?_)
        · rw [if_pos c] at h
          exact ih (v4 + (1 : Int32)) m13 _ hf h
        · rw [if_neg c] at h
          refine jem_ne (p := v4 = v1) (fun c => ?_) (fun c => ?_)
          · rw [if_neg c] at h
            obtain ⟨x23, m24, zm24, h⟩ := jbd_some h
            replace hf := jfr_tr hf (jfr_sub (W := W_M_isMore) rfl (fr_M_isMore zm24))
            refine jem (p := x23 = 0) (fun c => ?_) (fun c => ?_)
            · rw [if_pos c] at h
              exact ih (v4 + (1 : Int32)) m24 _ hf h
            · rw [if_neg c] at h
              exact hk138  m24 _ hf h
          · rw [if_pos c] at h
            obtain ⟨x25, ex25, g, h⟩ := jld_some h
            refine jem (p := v2 < x25) (fun c => ?_) (fun c => ?_)
            · rw [if_pos c] at h
              exact ih (v4 + (1 : Int32)) m13 _ hf h
            · rw [if_neg c] at h
              obtain ⟨x26, m27, zm27, h⟩ := jbd_some h
              replace hf := jfr_tr hf (jfr_sub (W := W_M_isMore) rfl (fr_M_isMore zm27))
              refine jem (p := x26 = 0) (fun c => ?_) (fun c => ?_)
              · rw [if_pos c] at h
                exact ih (v4 + (1 : Int32)) m27 _ hf h
              · rw [if_neg c] at h
                exact hk138  m27 _ hf h
theorem fr_M_forgedBy {v1 : Int32} {v2 : Int32} {v3 : Int32} {m : jMem} {r : (Int32 × jMem)} (h : f_M_forgedBy v1 v2 v3 m = some r) : jfr W_M_forgedBy m r.2 := by
  unfold f_M_forgedBy at h
  have hf : jfr W_M_forgedBy m m := jfr_rf
  refine fr_lp_M_forgedBy_3 v1 v2 v3 _ _ ?_ ?_ _ (0 : Int32) m _ hf h
  · intro m10 r hf h
    cases h
    exact hf
  · intro m11 r hf h
    refine fr_lp_M_forgedBy_71 v1 v2 v3 _ _ ?_ ?_ _ (0 : Int32) m11 _ hf h
    · intro m28 r hf h
      cases h
      exact hf
    · intro m29 r hf h
      obtain ⟨x30, m31, zm31, h⟩ := jbd_some h
      replace hf := jfr_tr hf (jfr_sub (W := W_M_manyBy) rfl (fr_M_manyBy zm31))
      refine jem_ne (p := x30 = 0) (fun c => ?_) (fun c => ?_)
      · rw [if_neg c] at h
        obtain ⟨x32, m33, zm33, h⟩ := jbd_some h
        replace hf := jfr_tr hf (jfr_sub (W := W_M_manyBy) rfl (fr_M_manyBy zm33))
        obtain ⟨x34, m35, zm35, h⟩ := jbd_some h
        replace hf := jfr_tr hf (jfr_sub (W := W_M_letterOf) rfl (fr_M_letterOf zm35))
        refine jem (p := x34 = (-1 : Int32)) (fun c => ?_) (fun c => ?_)
        · rw [if_pos c] at h
          cases h
          exact hf
        · rw [if_neg c] at h
          obtain ⟨x36, m37, zm37, h⟩ := jbd_some h
          replace hf := jfr_tr hf (jfr_sub (W := W_M_isMore) rfl (fr_M_isMore zm37))
          refine jem (p := x36 = 0) (fun c => ?_) (fun c => ?_)
          · rw [if_pos c] at h
            cases h
            exact hf
          · rw [if_neg c] at h
            cases h
            exact hf
      · rw [if_pos c] at h
        refine jem (p := (-1 : Int32) = (-1 : Int32)) (fun c => ?_) (fun c => ?_)
        · rw [if_pos c] at h
          cases h
          exact hf
        · rw [if_neg c] at h
          obtain ⟨x38, m39, zm39, h⟩ := jbd_some h
          replace hf := jfr_tr hf (jfr_sub (W := W_M_isMore) rfl (fr_M_isMore zm39))
          refine jem (p := x38 = 0) (fun c => ?_) (fun c => ?_)
          · rw [if_pos c] at h
            cases h
            exact hf
          · rw [if_neg c] at h
            cases h
            exact hf

def W_M_forged : List (Nat × Nat) := [(109, 1), (143, 0)]
theorem fr_M_forged {v1 : Int32} {v2 : Int32} {v3 : Int32} {m : jMem} {r : (Int32 × jMem)} (h : f_M_forged v1 v2 v3 m = some r) : jfr W_M_forged m r.2 := by
  unfold f_M_forged at h
  have hf : jfr W_M_forged m m := jfr_rf
  obtain ⟨m1, hm1, h⟩ := jpu_some h
  replace hf := jfr_tr hf (jfr_up hm1 rfl)
  obtain ⟨x2, m3, zm3, h⟩ := jbd_some h
  replace hf := jfr_tr hf (jfr_sub (W := W_M_isWriter) rfl (fr_M_isWriter zm3))
  refine jem (p := x2 = 0) (fun c => ?_) (fun c => ?_)
  · rw [if_pos c] at h
    cases h
    exact hf
  · rw [if_neg c] at h
    refine jem (p := v2 < 0) (fun c => ?_) (fun c => ?_)
    · rw [if_pos c] at h
      cases h
      exact hf
    · rw [if_neg c] at h
      refine jem (p := (m3 109 31) < v2) (fun c => ?_) (fun c => ?_)
      · rw [if_pos c] at h
        cases h
        exact hf
      · rw [if_neg c] at h
        refine jem (p := 0 ≤ v3) (fun c => ?_) (fun c => ?_)
        · rw [if_pos c] at h
          obtain ⟨u4, m5, zm5, h⟩ := jbd_some h
          replace hf := jfr_tr hf (jfr_sub (W := W_M_sums) rfl (fr_M_sums zm5))
          obtain ⟨x6, m7, zm7, h⟩ := jbd_some h
          replace hf := jfr_tr hf (jfr_sub (W := W_M_forgedBy) rfl (fr_M_forgedBy zm7))
          cases h
          exact hf
        · rw [if_neg c] at h
          cases h
          exact hf

def W_M_forgers : List (Nat × Nat) := [(109, 1), (143, 0)]
theorem fr_lp_M_forgers_32 {m0 : jMem} (v1 : Int32) (v2 : Int32) (k63 : Int32 → jMem → Option (Int32 × jMem))
    (hk63 : ∀ (v3 : Int32) (m : jMem) (r : (Int32 × jMem)), jfr W_M_forgers m0 m → k63 v3 m = some r → jfr W_M_forgers m0 r.2) : ∀ (n : Nat) (v3 : Int32) (v4 : Int32) (m : jMem) (r : (Int32 × jMem)), jfr W_M_forgers m0 m → lp_M_forgers_32 v1 v2 k63 n v3 v4 m = some r → jfr W_M_forgers m0 r.2 := by
  intro n
  induction n with
  | zero => intro v3 v4 m r hf h; unfold lp_M_forgers_32 at h; cases h
  | succ n ih =>
    intro v3 v4 m r hf h
    unfold lp_M_forgers_32 at h
    refine jem (p := (6 : Int32) ≤ v4) (fun c => ?_) (fun c => ?_)
    · rw [if_pos c] at h
      exact hk63 v3 m _ hf h
    · rw [if_neg c] at h
      obtain ⟨x4, m5, zm5, h⟩ := jbd_some h
      replace hf := jfr_tr hf (jfr_sub (W := W_M_forgedBy) rfl (fr_M_forgedBy zm5))
      refine jem_ne (p := x4 = 0) (fun c => ?_) (fun c => ?_)
      · rw [if_neg c] at h
        exact ih v3 (v4 + (1 : Int32)) m5 _ hf h
      · rw [if_pos c] at h
        exact ih (v3 ||| ((1 : Int32) <<< (v4 &&& 31))) (v4 + (1 : Int32)) m5 _ hf h
theorem fr_M_forgers {v1 : Int32} {v2 : Int32} {m : jMem} {r : (Int32 × jMem)} (h : f_M_forgers v1 v2 m = some r) : jfr W_M_forgers m r.2 := by
  unfold f_M_forgers at h
  have hf : jfr W_M_forgers m m := jfr_rf
  obtain ⟨m1, hm1, h⟩ := jpu_some h
  replace hf := jfr_tr hf (jfr_up hm1 rfl)
  refine jem (p := v1 < 0) (fun c => ?_) (fun c => ?_)
  · rw [if_pos c] at h
    cases h
    exact hf
  · rw [if_neg c] at h
    refine jem (p := (m1 109 31) < v1) (fun c => ?_) (fun c => ?_)
    · rw [if_pos c] at h
      cases h
      exact hf
    · rw [if_neg c] at h
      refine jem (p := 0 ≤ v2) (fun c => ?_) (fun c => ?_)
      · rw [if_pos c] at h
        obtain ⟨u2, m3, zm3, h⟩ := jbd_some h
        replace hf := jfr_tr hf (jfr_sub (W := W_M_sums) rfl (fr_M_sums zm3))
        refine fr_lp_M_forgers_32 v1 v2 _ ?_ _ (0 : Int32) (0 : Int32) m3 _ hf h
        intro w7 m6 r hf h
        cases h
        exact hf
      · rw [if_neg c] at h
        cases h
        exact hf

def W_M_leads : List (Nat × Nat) := []
theorem fr_lp_M_leads_19 {m0 : jMem} (v2 : Int32) (v4 : Int32) (k53 : Int32 → jMem → Option (Int32 × jMem))
    (hk53 : ∀ (v3 : Int32) (m : jMem) (r : (Int32 × jMem)), jfr W_M_leads m0 m → k53 v3 m = some r → jfr W_M_leads m0 r.2) : ∀ (n : Nat) (v3 : Int32) (v5 : Int32) (m : jMem) (r : (Int32 × jMem)), jfr W_M_leads m0 m → lp_M_leads_19 v2 v4 k53 n v3 v5 m = some r → jfr W_M_leads m0 r.2 := by
  intro n
  induction n with
  | zero => intro v3 v5 m r hf h; unfold lp_M_leads_19 at h; cases h
  | succ n ih =>
    intro v3 v5 m r hf h
    unfold lp_M_leads_19 at h
    refine jem (p := (m 109 33) ≤ v5) (fun c => ?_) (fun c => ?_)
    · rw [if_pos c] at h
      exact hk53 v3 m _ hf h
    · rw [if_neg c] at h
      obtain ⟨x1, ex1, g, h⟩ := jld_some h
      refine jem (p := (x1 &&& v3) = 0) (fun c => ?_) (fun c => ?_)
      · rw [if_pos c] at h
        exact ih v3 (v5 + (1 : Int32)) m _ hf h
      · rw [if_neg c] at h
        exact ih (v3 ||| ((1 : Int32) <<< (v5 &&& 31))) (v5 + (1 : Int32)) m _ hf h
theorem fr_lp_M_leads_56 {m0 : jMem} (v2 : Int32) (v4 : Int32) (k98 : Int32 → jMem → Option (Int32 × jMem))
    (hk98 : ∀ (v3 : Int32) (m : jMem) (r : (Int32 × jMem)), jfr W_M_leads m0 m → k98 v3 m = some r → jfr W_M_leads m0 r.2) : ∀ (n : Nat) (v3 : Int32) (v5 : Int32) (m : jMem) (r : (Int32 × jMem)), jfr W_M_leads m0 m → lp_M_leads_56 v2 v4 k98 n v3 v5 m = some r → jfr W_M_leads m0 r.2 := by
  intro n
  induction n with
  | zero => intro v3 v5 m r hf h; unfold lp_M_leads_56 at h; cases h
  | succ n ih =>
    intro v3 v5 m r hf h
    unfold lp_M_leads_56 at h
    refine jem (p := (m 109 64) ≤ v5) (fun c => ?_) (fun c => ?_)
    · rw [if_pos c] at h
      exact hk98 v3 m _ hf h
    · rw [if_neg c] at h
      obtain ⟨x4, ex4, g, h⟩ := jld_some h
      refine jem_ne (p := ((v3 >>> (x4 &&& 31)) &&& (1 : Int32)) = (1 : Int32)) (fun c => ?_) (fun c => ?_)
      · rw [if_neg c] at h
        exact ih v3 (v5 + (1 : Int32)) m _ hf h
      · rw [if_pos c] at h
        obtain ⟨x5, ex5, g, h⟩ := jld_some h
        exact ih (v3 ||| ((1 : Int32) <<< (x5 &&& 31))) (v5 + (1 : Int32)) m _ hf h
theorem fr_lp_M_leads_7 {m0 : jMem} (v2 : Int32) (k101 : Int32 → jMem → Option (Int32 × jMem))
    (hk101 : ∀ (v3 : Int32) (m : jMem) (r : (Int32 × jMem)), jfr W_M_leads m0 m → k101 v3 m = some r → jfr W_M_leads m0 r.2) : ∀ (n : Nat) (v3 : Int32) (v4 : Int32) (m : jMem) (r : (Int32 × jMem)), jfr W_M_leads m0 m → lp_M_leads_7 v2 k101 n v3 v4 m = some r → jfr W_M_leads m0 r.2 := by
  intro n
  induction n with
  | zero => intro v3 v4 m r hf h; unfold lp_M_leads_7 at h; cases h
  | succ n ih =>
    intro v3 v4 m r hf h
    unfold lp_M_leads_7 at h
    refine jem (p := v4 = v3) (fun c => ?_) (fun c => ?_)
    · rw [if_pos c] at h
      exact hk101 v3 m _ hf h
    · rw [if_neg c] at h
      refine fr_lp_M_leads_19 v2 v3 _ ?_ _ v3 (0 : Int32) m _ hf h
      intro w3 m2 r hf h
      refine fr_lp_M_leads_56 v2 v3 _ ?_ _ w3 (0 : Int32) m2 _ hf h
      intro w7 m6 r hf h
      exact ih w7 v3 m6 _ hf h
theorem fr_M_leads {v1 : Int32} {v2 : Int32} {m : jMem} {r : (Int32 × jMem)} (h : f_M_leads v1 v2 m = some r) : jfr W_M_leads m r.2 := by
  unfold f_M_leads at h
  have hf : jfr W_M_leads m m := jfr_rf
  refine fr_lp_M_leads_7 v2 _ ?_ _ ((1 : Int32) <<< (v1 &&& 31)) (0 : Int32) m _ hf h
  intro w9 m8 r hf h
  refine jem_ne (p := ((w9 >>> (v2 &&& 31)) &&& (1 : Int32)) = (1 : Int32)) (fun c => ?_) (fun c => ?_)
  · rw [if_neg c] at h
    cases h
    exact hf
  · rw [if_pos c] at h
    cases h
    exact hf

def W_M_ahead : List (Nat × Nat) := [(109, 1), (109, 65), (144, 0), (145, 0)]
theorem fr_M_ahead {v1 : Int32} {v2 : Int32} {m : jMem} {r : (Int32 × jMem)} (h : f_M_ahead v1 v2 m = some r) : jfr W_M_ahead m r.2 := by
  unfold f_M_ahead at h
  have hf : jfr W_M_ahead m m := jfr_rf
  obtain ⟨m1, hm1, h⟩ := jpu_some h
  replace hf := jfr_tr hf (jfr_up hm1 rfl)
  obtain ⟨x2, m3, zm3, h⟩ := jbd_some h
  replace hf := jfr_tr hf (jfr_sub (W := W_M_isLetter) rfl (fr_M_isLetter zm3))
  refine jem (p := x2 = 0) (fun c => ?_) (fun c => ?_)
  · rw [if_pos c] at h
    cases h
    exact hf
  · rw [if_neg c] at h
    obtain ⟨x4, m5, zm5, h⟩ := jbd_some h
    replace hf := jfr_tr hf (jfr_sub (W := W_M_isLetter) rfl (fr_M_isLetter zm5))
    refine jem (p := x4 = 0) (fun c => ?_) (fun c => ?_)
    · rw [if_pos c] at h
      cases h
      exact hf
    · rw [if_neg c] at h
      refine jem (p := v1 = v2) (fun c => ?_) (fun c => ?_)
      · rw [if_pos c] at h
        cases h
        exact hf
      · rw [if_neg c] at h
        refine jem (p := (m5 109 64) = (12 : Int32)) (fun c => ?_) (fun c => ?_)
        · rw [if_pos c] at h
          cases h
          exact hf
        · rw [if_neg c] at h
          obtain ⟨x6, m7, zm7, h⟩ := jbd_some h
          replace hf := jfr_tr hf (jfr_sub (W := W_M_leads) rfl (fr_M_leads zm7))
          refine jem (p := x6 = 0) (fun c => ?_) (fun c => ?_)
          · rw [if_pos c] at h
            obtain ⟨m8, hm8, g, h⟩ := jst_some h
            replace hf := jfr_tr hf (jfr_ua hm8 rfl)
            obtain ⟨m9, hm9, g, h⟩ := jst_some h
            replace hf := jfr_tr hf (jfr_ua hm9 rfl)
            obtain ⟨m10, hm10, h⟩ := jpu_some h
            replace hf := jfr_tr hf (jfr_up hm10 rfl)
            cases h
            exact hf
          · rw [if_neg c] at h
            cases h
            exact hf

def W_M_placeOf : List (Nat × Nat) := []
theorem fr_lp_M_placeOf_2 {m0 : jMem} (v1 : Int32) (k20 : Int32 → jMem → Option (Int32 × jMem)) (k28 : jMem → Option (Int32 × jMem))
    (hk20 : ∀ (v2 : Int32) (m : jMem) (r : (Int32 × jMem)), jfr W_M_placeOf m0 m → k20 v2 m = some r → jfr W_M_placeOf m0 r.2)
    (hk28 : ∀ (m : jMem) (r : (Int32 × jMem)), jfr W_M_placeOf m0 m → k28 m = some r → jfr W_M_placeOf m0 r.2) : ∀ (n : Nat) (v2 : Int32) (m : jMem) (r : (Int32 × jMem)), jfr W_M_placeOf m0 m → lp_M_placeOf_2 v1 k20 k28 n v2 m = some r → jfr W_M_placeOf m0 r.2 := by
  intro n
  induction n with
  | zero => intro v2 m r hf h; unfold lp_M_placeOf_2 at h; cases h
  | succ n ih =>
    intro v2 m r hf h
    unfold lp_M_placeOf_2 at h
    refine jem (p := (m 109 67) ≤ v2) (fun c => ?_) (fun c => ?_)
    · rw [if_pos c] at h
      exact hk28  m _ hf h
    · rw [if_neg c] at h
      obtain ⟨x1, ex1, g, h⟩ := jld_some h
      refine jem_ne (p := x1 = v1) (fun c => ?_) (fun c => ?_)
      · rw [if_neg c] at h
        exact ih (v2 + (1 : Int32)) m _ hf h
      · rw [if_pos c] at h
        exact hk20 v2 m _ hf h
theorem fr_M_placeOf {v1 : Int32} {m : jMem} {r : (Int32 × jMem)} (h : f_M_placeOf v1 m = some r) : jfr W_M_placeOf m r.2 := by
  unfold f_M_placeOf at h
  have hf : jfr W_M_placeOf m m := jfr_rf
  refine fr_lp_M_placeOf_2 v1 _ _ ?_ ?_ _ (0 : Int32) m _ hf h
  · intro w3 m2 r hf h
    cases h
    exact hf
  · intro m4 r hf h
    cases h
    exact hf

def W_M_lay : List (Nat × Nat) := [(109, 68), (146, 0), (147, 0)]
theorem fr_lp_M_lay_26 {m0 : jMem} (v1 : Int32) (k71 : jMem → Option (Int32 × jMem))
    (hk71 : ∀ (m : jMem) (r : (Int32 × jMem)), jfr W_M_lay m0 m → k71 m = some r → jfr W_M_lay m0 r.2) : ∀ (n : Nat) (v2 : Int32) (m : jMem) (r : (Int32 × jMem)), jfr W_M_lay m0 m → lp_M_lay_26 v1 k71 n v2 m = some r → jfr W_M_lay m0 r.2 := by
  intro n
  induction n with
  | zero => intro v2 m r hf h; unfold lp_M_lay_26 at h; cases h
  | succ n ih =>
    intro v2 m r hf h
    unfold lp_M_lay_26 at h
    refine jem (p := (m 109 33) ≤ v2) (fun c => ?_) (fun c => ?_)
    · rw [if_pos c] at h
      exact hk71  m _ hf h
    · rw [if_neg c] at h
      refine jem_ne (p := ((v1 >>> (v2 &&& 31)) &&& (1 : Int32)) = 0) (fun c => ?_) (fun c => ?_)
      · rw [if_neg c] at h
        obtain ⟨m6, hm6, g, h⟩ := jst_some h
        replace hf := jfr_tr hf (jfr_ua hm6 rfl)
        obtain ⟨m7, hm7, h⟩ := jpu_some h
        replace hf := jfr_tr hf (jfr_up hm7 rfl)
        exact ih (v2 + (1 : Int32)) m7 _ hf h
      · rw [if_pos c] at h
        exact ih (v2 + (1 : Int32)) m _ hf h
theorem fr_lp_M_lay_90 {m0 : jMem} (v2 : Int32) (k135 : jMem → Option (Int32 × jMem))
    (hk135 : ∀ (m : jMem) (r : (Int32 × jMem)), jfr W_M_lay m0 m → k135 m = some r → jfr W_M_lay m0 r.2) : ∀ (n : Nat) (v3 : Int32) (m : jMem) (r : (Int32 × jMem)), jfr W_M_lay m0 m → lp_M_lay_90 v2 k135 n v3 m = some r → jfr W_M_lay m0 r.2 := by
  intro n
  induction n with
  | zero => intro v3 m r hf h; unfold lp_M_lay_90 at h; cases h
  | succ n ih =>
    intro v3 m r hf h
    unfold lp_M_lay_90 at h
    refine jem (p := (m 109 67) ≤ v3) (fun c => ?_) (fun c => ?_)
    · rw [if_pos c] at h
      exact hk135  m _ hf h
    · rw [if_neg c] at h
      obtain ⟨x10, ex10, g, h⟩ := jld_some h
      obtain ⟨x11, ex11, g, h⟩ := jld_some h
      obtain ⟨x12, m13, zm13, h⟩ := jbd_some h
      replace hf := jfr_tr hf (jfr_sub (W := W_M_isBefore) rfl (fr_M_isBefore zm13))
      refine jem (p := x12 = 0) (fun c => ?_) (fun c => ?_)
      · rw [if_pos c] at h
        exact ih (v3 + (1 : Int32)) m13 _ hf h
      · rw [if_neg c] at h
        obtain ⟨x14, ex14, g, h⟩ := jld_some h
        obtain ⟨m15, hm15, g, h⟩ := jst_some h
        replace hf := jfr_tr hf (jfr_ua hm15 rfl)
        exact ih (v3 + (1 : Int32)) m15 _ hf h
theorem fr_lp_M_lay_137 {m0 : jMem} (v2 : Int32) (k201 : jMem → Option (Int32 × jMem))
    (hk201 : ∀ (m : jMem) (r : (Int32 × jMem)), jfr W_M_lay m0 m → k201 m = some r → jfr W_M_lay m0 r.2) : ∀ (n : Nat) (v3 : Int32) (m : jMem) (r : (Int32 × jMem)), jfr W_M_lay m0 m → lp_M_lay_137 v2 k201 n v3 m = some r → jfr W_M_lay m0 r.2 := by
  intro n
  induction n with
  | zero => intro v3 m r hf h; unfold lp_M_lay_137 at h; cases h
  | succ n ih =>
    intro v3 m r hf h
    unfold lp_M_lay_137 at h
    refine jem (p := (m 109 64) ≤ v3) (fun c => ?_) (fun c => ?_)
    · rw [if_pos c] at h
      exact hk201  m _ hf h
    · rw [if_neg c] at h
      obtain ⟨x17, ex17, g, h⟩ := jld_some h
      obtain ⟨x18, ex18, g, h⟩ := jld_some h
      refine jem_ne (p := x17 = x18) (fun c => ?_) (fun c => ?_)
      · rw [if_neg c] at h
        exact ih (v3 + (1 : Int32)) m _ hf h
      · rw [if_pos c] at h
        obtain ⟨x19, ex19, g, h⟩ := jld_some h
        obtain ⟨x20, m21, zm21, h⟩ := jbd_some h
        replace hf := jfr_tr hf (jfr_sub (W := W_M_placeOf) rfl (fr_M_placeOf zm21))
        refine jem (p := x20 = (-1 : Int32)) (fun c => ?_) (fun c => ?_)
        · rw [if_pos c] at h
          exact ih (v3 + (1 : Int32)) m21 _ hf h
        · rw [if_neg c] at h
          obtain ⟨x22, ex22, g, h⟩ := jld_some h
          obtain ⟨x23, ex23, g, h⟩ := jld_some h
          obtain ⟨x24, m25, zm25, h⟩ := jbd_some h
          replace hf := jfr_tr hf (jfr_sub (W := W_M_placeOf) rfl (fr_M_placeOf zm25))
          obtain ⟨m26, hm26, g, h⟩ := jst_some h
          replace hf := jfr_tr hf (jfr_ua hm26 rfl)
          exact ih (v3 + (1 : Int32)) m26 _ hf h
theorem fr_lp_M_lay_73 {m0 : jMem} (k207 : jMem → Option (Int32 × jMem))
    (hk207 : ∀ (m : jMem) (r : (Int32 × jMem)), jfr W_M_lay m0 m → k207 m = some r → jfr W_M_lay m0 r.2) : ∀ (n : Nat) (v2 : Int32) (m : jMem) (r : (Int32 × jMem)), jfr W_M_lay m0 m → lp_M_lay_73 k207 n v2 m = some r → jfr W_M_lay m0 r.2 := by
  intro n
  induction n with
  | zero => intro v2 m r hf h; unfold lp_M_lay_73 at h; cases h
  | succ n ih =>
    intro v2 m r hf h
    unfold lp_M_lay_73 at h
    refine jem (p := (m 109 67) ≤ v2) (fun c => ?_) (fun c => ?_)
    · rw [if_pos c] at h
      exact hk207  m _ hf h
    · rw [if_neg c] at h
      obtain ⟨m9, hm9, g, h⟩ := jst_some h
      replace hf := jfr_tr hf (jfr_ua hm9 rfl)
      refine fr_lp_M_lay_90 v2 _ ?_ _ (0 : Int32) m9 _ hf h
      intro m16 r hf h
      refine fr_lp_M_lay_137 v2 _ ?_ _ (0 : Int32) m16 _ hf h
      intro m27 r hf h
      exact ih (v2 + (1 : Int32)) m27 _ hf h
theorem fr_M_lay {v1 : Int32} {m : jMem} {r : (Int32 × jMem)} (h : f_M_lay v1 m = some r) : jfr W_M_lay m r.2 := by
  unfold f_M_lay at h
  have hf : jfr W_M_lay m m := jfr_rf
  obtain ⟨x1, m2, zm2, h⟩ := jbd_some h
  replace hf := jfr_tr hf (jfr_sub (W := W_M_isSet) rfl (fr_M_isSet zm2))
  refine jem (p := x1 = 0) (fun c => ?_) (fun c => ?_)
  · rw [if_pos c] at h
    cases h
    exact hf
  · rw [if_neg c] at h
    obtain ⟨x3, m4, zm4, h⟩ := jbd_some h
    replace hf := jfr_tr hf (jfr_sub (W := W_M_bits) rfl (fr_M_bits zm4))
    refine jem (p := x3 ≤ (12 : Int32)) (fun c => ?_) (fun c => ?_)
    · rw [if_pos c] at h
      obtain ⟨m5, hm5, h⟩ := jpu_some h
      replace hf := jfr_tr hf (jfr_up hm5 rfl)
      refine fr_lp_M_lay_26 v1 _ ?_ _ (0 : Int32) m5 _ hf h
      intro m8 r hf h
      refine fr_lp_M_lay_73 _ ?_ _ (0 : Int32) m8 _ hf h
      intro m28 r hf h
      cases h
      exact hf
    · rw [if_neg c] at h
      cases h
      exact hf

def W_M_countOrders : List (Nat × Nat) := [(148, 0)]
theorem fr_lp_M_countOrders_33 {m0 : jMem} (v2 : Int32) (k87 : jMem → Option (Int32 × jMem))
    (hk87 : ∀ (m : jMem) (r : (Int32 × jMem)), jfr W_M_countOrders m0 m → k87 m = some r → jfr W_M_countOrders m0 r.2) : ∀ (n : Nat) (v3 : Int32) (m : jMem) (r : (Int32 × jMem)), jfr W_M_countOrders m0 m → lp_M_countOrders_33 v2 k87 n v3 m = some r → jfr W_M_countOrders m0 r.2 := by
  intro n
  induction n with
  | zero => intro v3 m r hf h; unfold lp_M_countOrders_33 at h; cases h
  | succ n ih =>
    intro v3 m r hf h
    unfold lp_M_countOrders_33 at h
    refine jem (p := (m 109 67) ≤ v3) (fun c => ?_) (fun c => ?_)
    · rw [if_pos c] at h
      exact hk87  m _ hf h
    · rw [if_neg c] at h
      refine jem_ne (p := ((v2 >>> (v3 &&& 31)) &&& (1 : Int32)) = 0) (fun c => ?_) (fun c => ?_)
      · rw [if_neg c] at h
        exact ih (v3 + (1 : Int32)) m _ hf h
      · rw [if_pos c] at h
        obtain ⟨x3, ex3, g, h⟩ := jld_some h
        refine jem_ne (p := (x3 &&& (v2 ^^^ (-1 : Int32))) = 0) (fun c => ?_) (fun c => ?_)
        · rw [if_neg c] at h
          exact ih (v3 + (1 : Int32)) m _ hf h
        · rw [if_pos c] at h
          obtain ⟨x4, ex4, g, h⟩ := jld_some h
          obtain ⟨x5, ex5, g, h⟩ := jld_some h
          obtain ⟨m6, hm6, g, h⟩ := jst_some h
          replace hf := jfr_tr hf (jfr_ua hm6 rfl)
          exact ih (v3 + (1 : Int32)) m6 _ hf h
theorem fr_lp_M_countOrders_20 {m0 : jMem} (k93 : jMem → Option (Int32 × jMem))
    (hk93 : ∀ (m : jMem) (r : (Int32 × jMem)), jfr W_M_countOrders m0 m → k93 m = some r → jfr W_M_countOrders m0 r.2) : ∀ (n : Nat) (v2 : Int32) (m : jMem) (r : (Int32 × jMem)), jfr W_M_countOrders m0 m → lp_M_countOrders_20 k93 n v2 m = some r → jfr W_M_countOrders m0 r.2 := by
  intro n
  induction n with
  | zero => intro v2 m r hf h; unfold lp_M_countOrders_20 at h; cases h
  | succ n ih =>
    intro v2 m r hf h
    unfold lp_M_countOrders_20 at h
    refine jem (p := v2 < 0) (fun c => ?_) (fun c => ?_)
    · rw [if_pos c] at h
      exact hk93  m _ hf h
    · rw [if_neg c] at h
      obtain ⟨m2, hm2, g, h⟩ := jst_some h
      replace hf := jfr_tr hf (jfr_ua hm2 rfl)
      refine fr_lp_M_countOrders_33 v2 _ ?_ _ (0 : Int32) m2 _ hf h
      intro m7 r hf h
      exact ih (v2 + (-1 : Int32)) m7 _ hf h
theorem fr_M_countOrders {m : jMem} {r : (Int32 × jMem)} (h : f_M_countOrders m = some r) : jfr W_M_countOrders m r.2 := by
  unfold f_M_countOrders at h
  have hf : jfr W_M_countOrders m m := jfr_rf
  obtain ⟨m1, hm1, g, h⟩ := jst_some h
  replace hf := jfr_tr hf (jfr_ua hm1 rfl)
  refine fr_lp_M_countOrders_20 _ ?_ _ ((((1 : Int32) <<< ((m 109 67) &&& 31)) - (1 : Int32)) - (1 : Int32)) m1 _ hf h
  intro m8 r hf h
  obtain ⟨x9, ex9, g, h⟩ := jld_some h
  cases h
  exact hf

def W_M_orders : List (Nat × Nat) := [(109, 1), (109, 68), (146, 0), (147, 0), (148, 0)]
theorem fr_M_orders {v1 : Int32} {m : jMem} {r : (Int32 × jMem)} (h : f_M_orders v1 m = some r) : jfr W_M_orders m r.2 := by
  unfold f_M_orders at h
  have hf : jfr W_M_orders m m := jfr_rf
  obtain ⟨m1, hm1, h⟩ := jpu_some h
  replace hf := jfr_tr hf (jfr_up hm1 rfl)
  obtain ⟨x2, m3, zm3, h⟩ := jbd_some h
  replace hf := jfr_tr hf (jfr_sub (W := W_M_lay) rfl (fr_M_lay zm3))
  refine jem (p := x2 = 0) (fun c => ?_) (fun c => ?_)
  · rw [if_pos c] at h
    cases h
    exact hf
  · rw [if_neg c] at h
    obtain ⟨x4, m5, zm5, h⟩ := jbd_some h
    replace hf := jfr_tr hf (jfr_sub (W := W_M_countOrders) rfl (fr_M_countOrders zm5))
    cases h
    exact hf

def W_M_order : List (Nat × Nat) := [(109, 1), (109, 68), (146, 0), (147, 0), (148, 0)]
theorem fr_lp_M_order_60 {m0 : jMem} (v3 : Int32) (v5 : Int32) (v7 : Int32) (k151 : Int32 → Int32 → jMem → Option (Int32 × jMem))
    (hk151 : ∀ (v4 : Int32) (v6 : Int32) (m : jMem) (r : (Int32 × jMem)), jfr W_M_order m0 m → k151 v4 v6 m = some r → jfr W_M_order m0 r.2) : ∀ (n : Nat) (v4 : Int32) (v6 : Int32) (m : jMem) (r : (Int32 × jMem)), jfr W_M_order m0 m → lp_M_order_60 v3 v5 v7 k151 n v4 v6 m = some r → jfr W_M_order m0 r.2 := by
  intro n
  induction n with
  | zero => intro v4 v6 m r hf h; unfold lp_M_order_60 at h; cases h
  | succ n ih =>
    intro v4 v6 m r hf h
    unfold lp_M_order_60 at h
    refine jem (p := ((v5 >>> (v6 &&& 31)) &&& (1 : Int32)) = (1 : Int32)) (fun c => ?_) (fun c => ?_)
    · rw [if_pos c] at h
      refine jem_ne (p := ((v5 >>> (v6 &&& 31)) &&& (1 : Int32)) = 0) (fun c => ?_) (fun c => ?_)
      · rw [if_neg c] at h
        exact ih v4 (v6 + (1 : Int32)) m _ hf h
      · rw [if_pos c] at h
        obtain ⟨x6, ex6, g, h⟩ := jld_some h
        refine jem_ne (p := (x6 &&& (v5 ^^^ (-1 : Int32))) = 0) (fun c => ?_) (fun c => ?_)
        · rw [if_neg c] at h
          exact ih v4 (v6 + (1 : Int32)) m _ hf h
        · rw [if_pos c] at h
          obtain ⟨x7, ex7, g, h⟩ := jld_some h
          exact ih (v4 - x7) (v6 + (1 : Int32)) m _ hf h
    · rw [if_neg c] at h
      obtain ⟨x8, ex8, g, h⟩ := jld_some h
      refine jem_ne (p := (x8 &&& (v5 ^^^ (-1 : Int32))) = 0) (fun c => ?_) (fun c => ?_)
      · rw [if_neg c] at h
        refine jem_ne (p := ((v5 >>> (v6 &&& 31)) &&& (1 : Int32)) = 0) (fun c => ?_) (fun c => ?_)
        · rw [if_neg c] at h
          exact ih v4 (v6 + (1 : Int32)) m _ hf h
        · rw [if_pos c] at h
          obtain ⟨x9, ex9, g, h⟩ := jld_some h
          refine jem_ne (p := (x9 &&& (v5 ^^^ (-1 : Int32))) = 0) (fun c => ?_) (fun c => ?_)
          · rw [if_neg c] at h
            exact ih v4 (v6 + (1 : Int32)) m _ hf h
          · rw [if_pos c] at h
            obtain ⟨x10, ex10, g, h⟩ := jld_some h
            exact ih (v4 - x10) (v6 + (1 : Int32)) m _ hf h
      · rw [if_pos c] at h
        obtain ⟨x11, ex11, g, h⟩ := jld_some h
        refine jem (p := v4 < x11) (fun c => ?_) (fun c => ?_)
        · rw [if_pos c] at h
          exact hk151 v4 v6 m _ hf h
        · rw [if_neg c] at h
          refine jem_ne (p := ((v5 >>> (v6 &&& 31)) &&& (1 : Int32)) = 0) (fun c => ?_) (fun c => ?_)
          · rw [if_neg c] at h
            exact ih v4 (v6 + (1 : Int32)) m _ hf h
          · rw [if_pos c] at h
            obtain ⟨x12, ex12, g, h⟩ := jld_some h
            refine jem_ne (p := (x12 &&& (v5 ^^^ (-1 : Int32))) = 0) (fun c => ?_) (fun c => ?_)
            · rw [if_neg c] at h
              exact ih v4 (v6 + (1 : Int32)) m _ hf h
            · rw [if_pos c] at h
              obtain ⟨x13, ex13, g, h⟩ := jld_some h
              exact ih (v4 - x13) (v6 + (1 : Int32)) m _ hf h
theorem fr_lp_M_order_51 {m0 : jMem} (v3 : Int32) (k166 : Int32 → jMem → Option (Int32 × jMem))
    (hk166 : ∀ (v6 : Int32) (m : jMem) (r : (Int32 × jMem)), jfr W_M_order m0 m → k166 v6 m = some r → jfr W_M_order m0 r.2) : ∀ (n : Nat) (v4 : Int32) (v5 : Int32) (v6 : Int32) (v7 : Int32) (m : jMem) (r : (Int32 × jMem)), jfr W_M_order m0 m → lp_M_order_51 v3 k166 n v4 v5 v6 v7 m = some r → jfr W_M_order m0 r.2 := by
  intro n
  induction n with
  | zero => intro v4 v5 v6 v7 m r hf h; unfold lp_M_order_51 at h; cases h
  | succ n ih =>
    intro v4 v5 v6 v7 m r hf h
    unfold lp_M_order_51 at h
    refine jem (p := v3 < v7) (fun c => ?_) (fun c => ?_)
    · rw [if_pos c] at h
      exact hk166 v6 m _ hf h
    · rw [if_neg c] at h
      refine fr_lp_M_order_60 v3 v5 v7 _ ?_ _ v4 (0 : Int32) m _ hf h
      intro w15 w16 m14 r hf h
      exact ih w15 (v5 ||| ((1 : Int32) <<< (w16 &&& 31))) w16 (v7 + (1 : Int32)) m14 _ hf h
theorem fr_M_order {v1 : Int32} {v2 : Int32} {v3 : Int32} {m : jMem} {r : (Int32 × jMem)} (h : f_M_order v1 v2 v3 m = some r) : jfr W_M_order m r.2 := by
  unfold f_M_order at h
  have hf : jfr W_M_order m m := jfr_rf
  obtain ⟨m1, hm1, h⟩ := jpu_some h
  replace hf := jfr_tr hf (jfr_up hm1 rfl)
  obtain ⟨x2, m3, zm3, h⟩ := jbd_some h
  replace hf := jfr_tr hf (jfr_sub (W := W_M_lay) rfl (fr_M_lay zm3))
  refine jem (p := x2 = 0) (fun c => ?_) (fun c => ?_)
  · rw [if_pos c] at h
    cases h
    exact hf
  · rw [if_neg c] at h
    refine jem (p := v2 < 0) (fun c => ?_) (fun c => ?_)
    · rw [if_pos c] at h
      cases h
      exact hf
    · rw [if_neg c] at h
      refine jem (p := v3 < 0) (fun c => ?_) (fun c => ?_)
      · rw [if_pos c] at h
        cases h
        exact hf
      · rw [if_neg c] at h
        refine jem (p := (m3 109 67) ≤ v3) (fun c => ?_) (fun c => ?_)
        · rw [if_pos c] at h
          cases h
          exact hf
        · rw [if_neg c] at h
          obtain ⟨x4, m5, zm5, h⟩ := jbd_some h
          replace hf := jfr_tr hf (jfr_sub (W := W_M_countOrders) rfl (fr_M_countOrders zm5))
          refine jem (p := v2 < x4) (fun c => ?_) (fun c => ?_)
          · rw [if_pos c] at h
            refine fr_lp_M_order_51 v3 _ ?_ _ v2 (0 : Int32) (-1 : Int32) (0 : Int32) m5 _ hf h
            intro w18 m17 r hf h
            obtain ⟨x19, ex19, g, h⟩ := jld_some h
            cases h
            exact hf
          · rw [if_neg c] at h
            cases h
            exact hf

def W_M_firsts : List (Nat × Nat) := [(147, 0), (148, 0)]
theorem fr_M_firsts {v1 : Int32} {v2 : Int32} {m : jMem} {r : (Int32 × jMem)} (h : f_M_firsts v1 v2 m = some r) : jfr W_M_firsts m r.2 := by
  unfold f_M_firsts at h
  have hf : jfr W_M_firsts m m := jfr_rf
  obtain ⟨x1, ex1, g, h⟩ := jld_some h
  obtain ⟨x2, ex2, g, h⟩ := jld_some h
  obtain ⟨m3, hm3, g, h⟩ := jst_some h
  replace hf := jfr_tr hf (jfr_ua hm3 rfl)
  obtain ⟨x4, m5, zm5, h⟩ := jbd_some h
  replace hf := jfr_tr hf (jfr_sub (W := W_M_countOrders) rfl (fr_M_countOrders zm5))
  obtain ⟨m6, hm6, g, h⟩ := jst_some h
  replace hf := jfr_tr hf (jfr_ua hm6 rfl)
  cases h
  exact hf

def W_M_first : List (Nat × Nat) := [(109, 1), (109, 68), (146, 0), (147, 0), (148, 0)]
theorem fr_M_first {v1 : Int32} {v2 : Int32} {v3 : Int32} {m : jMem} {r : (Int32 × jMem)} (h : f_M_first v1 v2 v3 m = some r) : jfr W_M_first m r.2 := by
  unfold f_M_first at h
  have hf : jfr W_M_first m m := jfr_rf
  obtain ⟨m1, hm1, h⟩ := jpu_some h
  replace hf := jfr_tr hf (jfr_up hm1 rfl)
  obtain ⟨x2, m3, zm3, h⟩ := jbd_some h
  replace hf := jfr_tr hf (jfr_sub (W := W_M_lay) rfl (fr_M_lay zm3))
  refine jem (p := x2 = 0) (fun c => ?_) (fun c => ?_)
  · rw [if_pos c] at h
    cases h
    exact hf
  · rw [if_neg c] at h
    refine jem (p := v2 = v3) (fun c => ?_) (fun c => ?_)
    · rw [if_pos c] at h
      cases h
      exact hf
    · rw [if_neg c] at h
      obtain ⟨x4, m5, zm5, h⟩ := jbd_some h
      replace hf := jfr_tr hf (jfr_sub (W := W_M_placeOf) rfl (fr_M_placeOf zm5))
      refine jem (p := x4 = (-1 : Int32)) (fun c => ?_) (fun c => ?_)
      · rw [if_pos c] at h
        cases h
        exact hf
      · rw [if_neg c] at h
        obtain ⟨x6, m7, zm7, h⟩ := jbd_some h
        replace hf := jfr_tr hf (jfr_sub (W := W_M_placeOf) rfl (fr_M_placeOf zm7))
        refine jem_ne (p := x6 = (-1 : Int32)) (fun c => ?_) (fun c => ?_)
        · rw [if_neg c] at h
          obtain ⟨x8, m9, zm9, h⟩ := jbd_some h
          replace hf := jfr_tr hf (jfr_sub (W := W_M_placeOf) rfl (fr_M_placeOf zm9))
          obtain ⟨x10, m11, zm11, h⟩ := jbd_some h
          replace hf := jfr_tr hf (jfr_sub (W := W_M_placeOf) rfl (fr_M_placeOf zm11))
          obtain ⟨x12, m13, zm13, h⟩ := jbd_some h
          replace hf := jfr_tr hf (jfr_sub (W := W_M_firsts) rfl (fr_M_firsts zm13))
          cases h
          exact hf
        · rw [if_pos c] at h
          cases h
          exact hf

def W_M_ask : List (Nat × Nat) := [(109, 1), (109, 68), (146, 0), (147, 0), (148, 0)]
theorem fr_lp_M_ask_51 {m0 : jMem} (v2 : Int32) (v5 : Int32) (k120 : Int32 → Int32 → jMem → Option (Int32 × jMem))
    (hk120 : ∀ (v3 : Int32) (v4 : Int32) (m : jMem) (r : (Int32 × jMem)), jfr W_M_ask m0 m → k120 v3 v4 m = some r → jfr W_M_ask m0 r.2) : ∀ (n : Nat) (v3 : Int32) (v4 : Int32) (v6 : Int32) (m : jMem) (r : (Int32 × jMem)), jfr W_M_ask m0 m → lp_M_ask_51 v2 v5 k120 n v3 v4 v6 m = some r → jfr W_M_ask m0 r.2 := by
  intro n
  induction n with
  | zero => intro v3 v4 v6 m r hf h; unfold lp_M_ask_51 at h; cases h
  | succ n ih =>
    intro v3 v4 v6 m r hf h
    unfold lp_M_ask_51 at h
    refine jem (p := (m 109 67) ≤ v6) (fun c => ?_) (fun c => ?_)
    · rw [if_pos c] at h
      exact hk120 v3 v4 m _ hf h
    · rw [if_neg c] at h
      obtain ⟨x6, m7, zm7, h⟩ := jbd_some h
      replace hf := jfr_tr hf (jfr_sub (W := W_M_firsts) rfl (fr_M_firsts zm7))
      refine jem (p := v4 < (jmin x6 (v2 - x6))) (fun c => ?_) (fun c => ?_)
      · rw [if_pos c] at h
        obtain ⟨x8, ex8, g, h⟩ := jld_some h
        obtain ⟨x9, ex9, g, h⟩ := jld_some h
        exact ih (((32 : Int32) * x8) + x9) (jmin x6 (v2 - x6)) (v6 + (1 : Int32)) m7 _ hf h
      · rw [if_neg c] at h
        exact ih v3 v4 (v6 + (1 : Int32)) m7 _ hf h
theorem fr_lp_M_ask_36 {m0 : jMem} (v2 : Int32) (k126 : Int32 → jMem → Option (Int32 × jMem))
    (hk126 : ∀ (v3 : Int32) (m : jMem) (r : (Int32 × jMem)), jfr W_M_ask m0 m → k126 v3 m = some r → jfr W_M_ask m0 r.2) : ∀ (n : Nat) (v3 : Int32) (v4 : Int32) (v5 : Int32) (m : jMem) (r : (Int32 × jMem)), jfr W_M_ask m0 m → lp_M_ask_36 v2 k126 n v3 v4 v5 m = some r → jfr W_M_ask m0 r.2 := by
  intro n
  induction n with
  | zero => intro v3 v4 v5 m r hf h; unfold lp_M_ask_36 at h; cases h
  | succ n ih =>
    intro v3 v4 v5 m r hf h
    unfold lp_M_ask_36 at h
    refine jem (p := (m 109 67) ≤ v5) (fun c => ?_) (fun c => ?_)
    · rw [if_pos c] at h
      exact hk126 v3 m _ hf h
    · rw [if_neg c] at h
      refine fr_lp_M_ask_51 v2 v5 _ ?_ _ v3 v4 (v5 + (1 : Int32)) m _ hf h
      intro w11 w12 m10 r hf h
      exact ih w11 w12 (v5 + (1 : Int32)) m10 _ hf h
theorem fr_M_ask {v1 : Int32} {m : jMem} {r : (Int32 × jMem)} (h : f_M_ask v1 m = some r) : jfr W_M_ask m r.2 := by
  unfold f_M_ask at h
  have hf : jfr W_M_ask m m := jfr_rf
  obtain ⟨m1, hm1, h⟩ := jpu_some h
  replace hf := jfr_tr hf (jfr_up hm1 rfl)
  obtain ⟨x2, m3, zm3, h⟩ := jbd_some h
  replace hf := jfr_tr hf (jfr_sub (W := W_M_lay) rfl (fr_M_lay zm3))
  refine jem (p := x2 = 0) (fun c => ?_) (fun c => ?_)
  · rw [if_pos c] at h
    cases h
    exact hf
  · rw [if_neg c] at h
    refine jem (p := (2 : Int32) ≤ (m3 109 67)) (fun c => ?_) (fun c => ?_)
    · rw [if_pos c] at h
      obtain ⟨x4, m5, zm5, h⟩ := jbd_some h
      replace hf := jfr_tr hf (jfr_sub (W := W_M_countOrders) rfl (fr_M_countOrders zm5))
      refine fr_lp_M_ask_36 x4 _ ?_ _ (-1 : Int32) (-1 : Int32) (0 : Int32) m5 _ hf h
      intro w14 m13 r hf h
      cases h
      exact hf
    · rw [if_neg c] at h
      cases h
      exact hf

def W_M_hangs : List (Nat × Nat) := [(109, 1)]
theorem fr_lp_M_hangs_37 {m0 : jMem} (v1 : Int32) (v2 : Int32) (k186 : Int32 → Int32 → Int32 → jMem → Option (Int32 × jMem))
    (hk186 : ∀ (v3 : Int32) (v4 : Int32) (v5 : Int32) (m : jMem) (r : (Int32 × jMem)), jfr W_M_hangs m0 m → k186 v3 v4 v5 m = some r → jfr W_M_hangs m0 r.2) : ∀ (n : Nat) (v3 : Int32) (v4 : Int32) (v5 : Int32) (v6 : Int32) (m : jMem) (r : (Int32 × jMem)), jfr W_M_hangs m0 m → lp_M_hangs_37 v1 v2 k186 n v3 v4 v5 v6 m = some r → jfr W_M_hangs m0 r.2 := by
  intro n
  induction n with
  | zero => intro v3 v4 v5 v6 m r hf h; unfold lp_M_hangs_37 at h; cases h
  | succ n ih =>
    intro v3 v4 v5 v6 m r hf h
    unfold lp_M_hangs_37 at h
    refine jem (p := (m 109 33) ≤ v6) (fun c => ?_) (fun c => ?_)
    · rw [if_pos c] at h
      exact hk186 v3 v4 v5 m _ hf h
    · rw [if_neg c] at h
      obtain ⟨x4, ex4, g, h⟩ := jld_some h
      refine jem_ne (p := x4 = (2 : Int32)) (fun c => ?_) (fun c => ?_)
      · rw [if_neg c] at h
        obtain ⟨x5, m6, zm6, h⟩ := jbd_some h
        replace hf := jfr_tr hf (jfr_sub (W := W_M_isBefore) rfl (fr_M_isBefore zm6))
        refine jem (p := x5 = 0) (fun c => ?_) (fun c => ?_)
        · rw [if_pos c] at h
          obtain ⟨x7, ex7, g, h⟩ := jld_some h
          refine jem (p := x7 = v1) (fun c => ?_) (fun c => ?_)
          · rw [if_pos c] at h
            exact ih (v3 ||| (0 : Int32)) (v4 ||| ((1 : Int32) <<< (v6 &&& 31))) v5 (v6 + (1 : Int32)) m6 _ hf h
          · rw [if_neg c] at h
            obtain ⟨x8, ex8, g, h⟩ := jld_some h
            refine jem (p := x8 = v1) (fun c => ?_) (fun c => ?_)
            · rw [if_pos c] at h
              exact ih (v3 ||| (0 : Int32)) (v4 ||| ((1 : Int32) <<< (v6 &&& 31))) v5 (v6 + (1 : Int32)) m6 _ hf h
            · rw [if_neg c] at h
              obtain ⟨x9, ex9, g, h⟩ := jld_some h
              refine jem (p := x9 = (-1 : Int32)) (fun c => ?_) (fun c => ?_)
              · rw [if_pos c] at h
                obtain ⟨x10, ex10, g, h⟩ := jld_some h
                refine jem (p := x10 = (-1 : Int32)) (fun c => ?_) (fun c => ?_)
                · rw [if_pos c] at h
                  exact ih (v3 ||| (0 : Int32)) v4 v5 (v6 + (1 : Int32)) m6 _ hf h
                · rw [if_neg c] at h
                  obtain ⟨x11, ex11, g, h⟩ := jld_some h
                  refine jem_ne (p := ((v4 >>> (x11 &&& 31)) &&& (1 : Int32)) = (1 : Int32)) (fun c => ?_) (fun c => ?_)
                  · rw [if_neg c] at h
                    exact ih (v3 ||| (0 : Int32)) v4 v5 (v6 + (1 : Int32)) m6 _ hf h
                  · rw [if_pos c] at h
                    exact ih (v3 ||| (0 : Int32)) (v4 ||| ((1 : Int32) <<< (v6 &&& 31))) v5 (v6 + (1 : Int32)) m6 _ hf h
              · rw [if_neg c] at h
                obtain ⟨x12, ex12, g, h⟩ := jld_some h
                refine jem (p := ((v4 >>> (x12 &&& 31)) &&& (1 : Int32)) = (1 : Int32)) (fun c => ?_) (fun c => ?_)
                · rw [if_pos c] at h
                  exact ih (v3 ||| (0 : Int32)) (v4 ||| ((1 : Int32) <<< (v6 &&& 31))) v5 (v6 + (1 : Int32)) m6 _ hf h
                · rw [if_neg c] at h
                  obtain ⟨x13, ex13, g, h⟩ := jld_some h
                  refine jem (p := x13 = (-1 : Int32)) (fun c => ?_) (fun c => ?_)
                  · rw [if_pos c] at h
                    exact ih (v3 ||| (0 : Int32)) v4 v5 (v6 + (1 : Int32)) m6 _ hf h
                  · rw [if_neg c] at h
                    obtain ⟨x14, ex14, g, h⟩ := jld_some h
                    refine jem_ne (p := ((v4 >>> (x14 &&& 31)) &&& (1 : Int32)) = (1 : Int32)) (fun c => ?_) (fun c => ?_)
                    · rw [if_neg c] at h
                      exact ih (v3 ||| (0 : Int32)) v4 v5 (v6 + (1 : Int32)) m6 _ hf h
                    · rw [if_pos c] at h
                      exact ih (v3 ||| (0 : Int32)) (v4 ||| ((1 : Int32) <<< (v6 &&& 31))) v5 (v6 + (1 : Int32)) m6 _ hf h
        · rw [if_neg c] at h
          obtain ⟨x15, ex15, g, h⟩ := jld_some h
          refine jem (p := x15 = v1) (fun c => ?_) (fun c => ?_)
          · rw [if_pos c] at h
            exact ih (v3 ||| (0 : Int32)) (v4 ||| ((1 : Int32) <<< (v6 &&& 31))) (v5 ||| ((1 : Int32) <<< (v6 &&& 31))) (v6 + (1 : Int32)) m6 _ hf h
          · rw [if_neg c] at h
            obtain ⟨x16, ex16, g, h⟩ := jld_some h
            refine jem (p := x16 = v1) (fun c => ?_) (fun c => ?_)
            · rw [if_pos c] at h
              exact ih (v3 ||| (0 : Int32)) (v4 ||| ((1 : Int32) <<< (v6 &&& 31))) (v5 ||| ((1 : Int32) <<< (v6 &&& 31))) (v6 + (1 : Int32)) m6 _ hf h
            · rw [if_neg c] at h
              obtain ⟨x17, ex17, g, h⟩ := jld_some h
              refine jem (p := x17 = (-1 : Int32)) (fun c => ?_) (fun c => ?_)
              · rw [if_pos c] at h
                obtain ⟨x18, ex18, g, h⟩ := jld_some h
                refine jem (p := x18 = (-1 : Int32)) (fun c => ?_) (fun c => ?_)
                · rw [if_pos c] at h
                  exact ih (v3 ||| (0 : Int32)) v4 (v5 ||| ((1 : Int32) <<< (v6 &&& 31))) (v6 + (1 : Int32)) m6 _ hf h
                · rw [if_neg c] at h
                  obtain ⟨x19, ex19, g, h⟩ := jld_some h
                  refine jem_ne (p := ((v4 >>> (x19 &&& 31)) &&& (1 : Int32)) = (1 : Int32)) (fun c => ?_) (fun c => ?_)
                  · rw [if_neg c] at h
                    exact ih (v3 ||| (0 : Int32)) v4 (v5 ||| ((1 : Int32) <<< (v6 &&& 31))) (v6 + (1 : Int32)) m6 _ hf h
                  · rw [if_pos c] at h
                    exact ih (v3 ||| (0 : Int32)) (v4 ||| ((1 : Int32) <<< (v6 &&& 31))) (v5 ||| ((1 : Int32) <<< (v6 &&& 31))) (v6 + (1 : Int32)) m6 _ hf h
              · rw [if_neg c] at h
                obtain ⟨x20, ex20, g, h⟩ := jld_some h
                refine jem (p := ((v4 >>> (x20 &&& 31)) &&& (1 : Int32)) = (1 : Int32)) (fun c => ?_) (fun c => ?_)
                · rw [if_pos c] at h
                  exact ih (v3 ||| (0 : Int32)) (v4 ||| ((1 : Int32) <<< (v6 &&& 31))) (v5 ||| ((1 : Int32) <<< (v6 &&& 31))) (v6 + (1 : Int32)) m6 _ hf h
                · rw [if_neg c] at h
                  obtain ⟨x21, ex21, g, h⟩ := jld_some h
                  refine jem (p := x21 = (-1 : Int32)) (fun c => ?_) (fun c => ?_)
                  · rw [if_pos c] at h
                    exact ih (v3 ||| (0 : Int32)) v4 (v5 ||| ((1 : Int32) <<< (v6 &&& 31))) (v6 + (1 : Int32)) m6 _ hf h
                  · rw [if_neg c] at h
                    obtain ⟨x22, ex22, g, h⟩ := jld_some h
                    refine jem_ne (p := ((v4 >>> (x22 &&& 31)) &&& (1 : Int32)) = (1 : Int32)) (fun c => ?_) (fun c => ?_)
                    · rw [if_neg c] at h
                      exact ih (v3 ||| (0 : Int32)) v4 (v5 ||| ((1 : Int32) <<< (v6 &&& 31))) (v6 + (1 : Int32)) m6 _ hf h
                    · rw [if_pos c] at h
                      exact ih (v3 ||| (0 : Int32)) (v4 ||| ((1 : Int32) <<< (v6 &&& 31))) (v5 ||| ((1 : Int32) <<< (v6 &&& 31))) (v6 + (1 : Int32)) m6 _ hf h
      · rw [if_pos c] at h
        obtain ⟨x23, ex23, g, h⟩ := jld_some h
        refine jem_ne (p := x23 = v1) (fun c => ?_) (fun c => ?_)
        · rw [if_neg c] at h
          obtain ⟨x24, m25, zm25, h⟩ := jbd_some h
          replace hf := jfr_tr hf (jfr_sub (W := W_M_isBefore) rfl (fr_M_isBefore zm25))
          refine jem (p := x24 = 0) (fun c => ?_) (fun c => ?_)
          · rw [if_pos c] at h
            obtain ⟨x26, ex26, g, h⟩ := jld_some h
            refine jem (p := x26 = v1) (fun c => ?_) (fun c => ?_)
            · rw [if_pos c] at h
              exact ih (v3 ||| (0 : Int32)) (v4 ||| ((1 : Int32) <<< (v6 &&& 31))) v5 (v6 + (1 : Int32)) m25 _ hf h
            · rw [if_neg c] at h
              obtain ⟨x27, ex27, g, h⟩ := jld_some h
              refine jem (p := x27 = v1) (fun c => ?_) (fun c => ?_)
              · rw [if_pos c] at h
                exact ih (v3 ||| (0 : Int32)) (v4 ||| ((1 : Int32) <<< (v6 &&& 31))) v5 (v6 + (1 : Int32)) m25 _ hf h
              · rw [if_neg c] at h
                obtain ⟨x28, ex28, g, h⟩ := jld_some h
                refine jem (p := x28 = (-1 : Int32)) (fun c => ?_) (fun c => ?_)
                · rw [if_pos c] at h
                  obtain ⟨x29, ex29, g, h⟩ := jld_some h
                  refine jem (p := x29 = (-1 : Int32)) (fun c => ?_) (fun c => ?_)
                  · rw [if_pos c] at h
                    exact ih (v3 ||| (0 : Int32)) v4 v5 (v6 + (1 : Int32)) m25 _ hf h
                  · rw [if_neg c] at h
                    obtain ⟨x30, ex30, g, h⟩ := jld_some h
                    refine jem_ne (p := ((v4 >>> (x30 &&& 31)) &&& (1 : Int32)) = (1 : Int32)) (fun c => ?_) (fun c => ?_)
                    · rw [if_neg c] at h
                      exact ih (v3 ||| (0 : Int32)) v4 v5 (v6 + (1 : Int32)) m25 _ hf h
                    · rw [if_pos c] at h
                      exact ih (v3 ||| (0 : Int32)) (v4 ||| ((1 : Int32) <<< (v6 &&& 31))) v5 (v6 + (1 : Int32)) m25 _ hf h
                · rw [if_neg c] at h
                  obtain ⟨x31, ex31, g, h⟩ := jld_some h
                  refine jem (p := ((v4 >>> (x31 &&& 31)) &&& (1 : Int32)) = (1 : Int32)) (fun c => ?_) (fun c => ?_)
                  · rw [if_pos c] at h
                    exact ih (v3 ||| (0 : Int32)) (v4 ||| ((1 : Int32) <<< (v6 &&& 31))) v5 (v6 + (1 : Int32)) m25 _ hf h
                  · rw [if_neg c] at h
                    obtain ⟨x32, ex32, g, h⟩ := jld_some h
                    refine jem (p := x32 = (-1 : Int32)) (fun c => ?_) (fun c => ?_)
                    · rw [if_pos c] at h
                      exact ih (v3 ||| (0 : Int32)) v4 v5 (v6 + (1 : Int32)) m25 _ hf h
                    · rw [if_neg c] at h
                      obtain ⟨x33, ex33, g, h⟩ := jld_some h
                      refine jem_ne (p := ((v4 >>> (x33 &&& 31)) &&& (1 : Int32)) = (1 : Int32)) (fun c => ?_) (fun c => ?_)
                      · rw [if_neg c] at h
                        exact ih (v3 ||| (0 : Int32)) v4 v5 (v6 + (1 : Int32)) m25 _ hf h
                      · rw [if_pos c] at h
                        exact ih (v3 ||| (0 : Int32)) (v4 ||| ((1 : Int32) <<< (v6 &&& 31))) v5 (v6 + (1 : Int32)) m25 _ hf h
          · rw [if_neg c] at h
            obtain ⟨x34, ex34, g, h⟩ := jld_some h
            refine jem (p := x34 = v1) (fun c => ?_) (fun c => ?_)
            · rw [if_pos c] at h
              exact ih (v3 ||| (0 : Int32)) (v4 ||| ((1 : Int32) <<< (v6 &&& 31))) (v5 ||| ((1 : Int32) <<< (v6 &&& 31))) (v6 + (1 : Int32)) m25 _ hf h
            · rw [if_neg c] at h
              obtain ⟨x35, ex35, g, h⟩ := jld_some h
              refine jem (p := x35 = v1) (fun c => ?_) (fun c => ?_)
              · rw [if_pos c] at h
                exact ih (v3 ||| (0 : Int32)) (v4 ||| ((1 : Int32) <<< (v6 &&& 31))) (v5 ||| ((1 : Int32) <<< (v6 &&& 31))) (v6 + (1 : Int32)) m25 _ hf h
              · rw [if_neg c] at h
                obtain ⟨x36, ex36, g, h⟩ := jld_some h
                refine jem (p := x36 = (-1 : Int32)) (fun c => ?_) (fun c => ?_)
                · rw [if_pos c] at h
                  obtain ⟨x37, ex37, g, h⟩ := jld_some h
                  refine jem (p := x37 = (-1 : Int32)) (fun c => ?_) (fun c => ?_)
                  · rw [if_pos c] at h
                    exact ih (v3 ||| (0 : Int32)) v4 (v5 ||| ((1 : Int32) <<< (v6 &&& 31))) (v6 + (1 : Int32)) m25 _ hf h
                  · rw [if_neg c] at h
                    obtain ⟨x38, ex38, g, h⟩ := jld_some h
                    refine jem_ne (p := ((v4 >>> (x38 &&& 31)) &&& (1 : Int32)) = (1 : Int32)) (fun c => ?_) (fun c => ?_)
                    · rw [if_neg c] at h
                      exact ih (v3 ||| (0 : Int32)) v4 (v5 ||| ((1 : Int32) <<< (v6 &&& 31))) (v6 + (1 : Int32)) m25 _ hf h
                    · rw [if_pos c] at h
                      exact ih (v3 ||| (0 : Int32)) (v4 ||| ((1 : Int32) <<< (v6 &&& 31))) (v5 ||| ((1 : Int32) <<< (v6 &&& 31))) (v6 + (1 : Int32)) m25 _ hf h
                · rw [if_neg c] at h
                  obtain ⟨x39, ex39, g, h⟩ := jld_some h
                  refine jem (p := ((v4 >>> (x39 &&& 31)) &&& (1 : Int32)) = (1 : Int32)) (fun c => ?_) (fun c => ?_)
                  · rw [if_pos c] at h
                    exact ih (v3 ||| (0 : Int32)) (v4 ||| ((1 : Int32) <<< (v6 &&& 31))) (v5 ||| ((1 : Int32) <<< (v6 &&& 31))) (v6 + (1 : Int32)) m25 _ hf h
                  · rw [if_neg c] at h
                    obtain ⟨x40, ex40, g, h⟩ := jld_some h
                    refine jem (p := x40 = (-1 : Int32)) (fun c => ?_) (fun c => ?_)
                    · rw [if_pos c] at h
                      exact ih (v3 ||| (0 : Int32)) v4 (v5 ||| ((1 : Int32) <<< (v6 &&& 31))) (v6 + (1 : Int32)) m25 _ hf h
                    · rw [if_neg c] at h
                      obtain ⟨x41, ex41, g, h⟩ := jld_some h
                      refine jem_ne (p := ((v4 >>> (x41 &&& 31)) &&& (1 : Int32)) = (1 : Int32)) (fun c => ?_) (fun c => ?_)
                      · rw [if_neg c] at h
                        exact ih (v3 ||| (0 : Int32)) v4 (v5 ||| ((1 : Int32) <<< (v6 &&& 31))) (v6 + (1 : Int32)) m25 _ hf h
                      · rw [if_pos c] at h
                        exact ih (v3 ||| (0 : Int32)) (v4 ||| ((1 : Int32) <<< (v6 &&& 31))) (v5 ||| ((1 : Int32) <<< (v6 &&& 31))) (v6 + (1 : Int32)) m25 _ hf h
        · rw [if_pos c] at h
          obtain ⟨x42, m43, zm43, h⟩ := jbd_some h
          replace hf := jfr_tr hf (jfr_sub (W := W_M_isBefore) rfl (fr_M_isBefore zm43))
          refine jem (p := x42 = 0) (fun c => ?_) (fun c => ?_)
          · rw [if_pos c] at h
            obtain ⟨x44, ex44, g, h⟩ := jld_some h
            refine jem (p := x44 = v1) (fun c => ?_) (fun c => ?_)
            · rw [if_pos c] at h
              exact ih (v3 ||| (1 : Int32)) (v4 ||| ((1 : Int32) <<< (v6 &&& 31))) v5 (v6 + (1 : Int32)) m43 _ hf h
            · rw [if_neg c] at h
              obtain ⟨x45, ex45, g, h⟩ := jld_some h
              refine jem (p := x45 = v1) (fun c => ?_) (fun c => ?_)
              · rw [if_pos c] at h
                exact ih (v3 ||| (1 : Int32)) (v4 ||| ((1 : Int32) <<< (v6 &&& 31))) v5 (v6 + (1 : Int32)) m43 _ hf h
              · rw [if_neg c] at h
                obtain ⟨x46, ex46, g, h⟩ := jld_some h
                refine jem (p := x46 = (-1 : Int32)) (fun c => ?_) (fun c => ?_)
                · rw [if_pos c] at h
                  obtain ⟨x47, ex47, g, h⟩ := jld_some h
                  refine jem (p := x47 = (-1 : Int32)) (fun c => ?_) (fun c => ?_)
                  · rw [if_pos c] at h
                    exact ih (v3 ||| (1 : Int32)) v4 v5 (v6 + (1 : Int32)) m43 _ hf h
                  · rw [if_neg c] at h
                    obtain ⟨x48, ex48, g, h⟩ := jld_some h
                    refine jem_ne (p := ((v4 >>> (x48 &&& 31)) &&& (1 : Int32)) = (1 : Int32)) (fun c => ?_) (fun c => ?_)
                    · rw [if_neg c] at h
                      exact ih (v3 ||| (1 : Int32)) v4 v5 (v6 + (1 : Int32)) m43 _ hf h
                    · rw [if_pos c] at h
                      exact ih (v3 ||| (1 : Int32)) (v4 ||| ((1 : Int32) <<< (v6 &&& 31))) v5 (v6 + (1 : Int32)) m43 _ hf h
                · rw [if_neg c] at h
                  obtain ⟨x49, ex49, g, h⟩ := jld_some h
                  refine jem (p := ((v4 >>> (x49 &&& 31)) &&& (1 : Int32)) = (1 : Int32)) (fun c => ?_) (fun c => ?_)
                  · rw [if_pos c] at h
                    exact ih (v3 ||| (1 : Int32)) (v4 ||| ((1 : Int32) <<< (v6 &&& 31))) v5 (v6 + (1 : Int32)) m43 _ hf h
                  · rw [if_neg c] at h
                    obtain ⟨x50, ex50, g, h⟩ := jld_some h
                    refine jem (p := x50 = (-1 : Int32)) (fun c => ?_) (fun c => ?_)
                    · rw [if_pos c] at h
                      exact ih (v3 ||| (1 : Int32)) v4 v5 (v6 + (1 : Int32)) m43 _ hf h
                    · rw [if_neg c] at h
                      obtain ⟨x51, ex51, g, h⟩ := jld_some h
                      refine jem_ne (p := ((v4 >>> (x51 &&& 31)) &&& (1 : Int32)) = (1 : Int32)) (fun c => ?_) (fun c => ?_)
                      · rw [if_neg c] at h
                        exact ih (v3 ||| (1 : Int32)) v4 v5 (v6 + (1 : Int32)) m43 _ hf h
                      · rw [if_pos c] at h
                        exact ih (v3 ||| (1 : Int32)) (v4 ||| ((1 : Int32) <<< (v6 &&& 31))) v5 (v6 + (1 : Int32)) m43 _ hf h
          · rw [if_neg c] at h
            obtain ⟨x52, ex52, g, h⟩ := jld_some h
            refine jem (p := x52 = v1) (fun c => ?_) (fun c => ?_)
            · rw [if_pos c] at h
              exact ih (v3 ||| (1 : Int32)) (v4 ||| ((1 : Int32) <<< (v6 &&& 31))) (v5 ||| ((1 : Int32) <<< (v6 &&& 31))) (v6 + (1 : Int32)) m43 _ hf h
            · rw [if_neg c] at h
              obtain ⟨x53, ex53, g, h⟩ := jld_some h
              refine jem (p := x53 = v1) (fun c => ?_) (fun c => ?_)
              · rw [if_pos c] at h
                exact ih (v3 ||| (1 : Int32)) (v4 ||| ((1 : Int32) <<< (v6 &&& 31))) (v5 ||| ((1 : Int32) <<< (v6 &&& 31))) (v6 + (1 : Int32)) m43 _ hf h
              · rw [if_neg c] at h
                obtain ⟨x54, ex54, g, h⟩ := jld_some h
                refine jem (p := x54 = (-1 : Int32)) (fun c => ?_) (fun c => ?_)
                · rw [if_pos c] at h
                  obtain ⟨x55, ex55, g, h⟩ := jld_some h
                  refine jem (p := x55 = (-1 : Int32)) (fun c => ?_) (fun c => ?_)
                  · rw [if_pos c] at h
                    exact ih (v3 ||| (1 : Int32)) v4 (v5 ||| ((1 : Int32) <<< (v6 &&& 31))) (v6 + (1 : Int32)) m43 _ hf h
                  · rw [if_neg c] at h
                    obtain ⟨x56, ex56, g, h⟩ := jld_some h
                    refine jem_ne (p := ((v4 >>> (x56 &&& 31)) &&& (1 : Int32)) = (1 : Int32)) (fun c => ?_) (fun c => ?_)
                    · rw [if_neg c] at h
                      exact ih (v3 ||| (1 : Int32)) v4 (v5 ||| ((1 : Int32) <<< (v6 &&& 31))) (v6 + (1 : Int32)) m43 _ hf h
                    · rw [if_pos c] at h
                      exact ih (v3 ||| (1 : Int32)) (v4 ||| ((1 : Int32) <<< (v6 &&& 31))) (v5 ||| ((1 : Int32) <<< (v6 &&& 31))) (v6 + (1 : Int32)) m43 _ hf h
                · rw [if_neg c] at h
                  obtain ⟨x57, ex57, g, h⟩ := jld_some h
                  refine jem (p := ((v4 >>> (x57 &&& 31)) &&& (1 : Int32)) = (1 : Int32)) (fun c => ?_) (fun c => ?_)
                  · rw [if_pos c] at h
                    exact ih (v3 ||| (1 : Int32)) (v4 ||| ((1 : Int32) <<< (v6 &&& 31))) (v5 ||| ((1 : Int32) <<< (v6 &&& 31))) (v6 + (1 : Int32)) m43 _ hf h
                  · rw [if_neg c] at h
                    obtain ⟨x58, ex58, g, h⟩ := jld_some h
                    refine jem (p := x58 = (-1 : Int32)) (fun c => ?_) (fun c => ?_)
                    · rw [if_pos c] at h
                      exact ih (v3 ||| (1 : Int32)) v4 (v5 ||| ((1 : Int32) <<< (v6 &&& 31))) (v6 + (1 : Int32)) m43 _ hf h
                    · rw [if_neg c] at h
                      obtain ⟨x59, ex59, g, h⟩ := jld_some h
                      refine jem_ne (p := ((v4 >>> (x59 &&& 31)) &&& (1 : Int32)) = (1 : Int32)) (fun c => ?_) (fun c => ?_)
                      · rw [if_neg c] at h
                        exact ih (v3 ||| (1 : Int32)) v4 (v5 ||| ((1 : Int32) <<< (v6 &&& 31))) (v6 + (1 : Int32)) m43 _ hf h
                      · rw [if_pos c] at h
                        exact ih (v3 ||| (1 : Int32)) (v4 ||| ((1 : Int32) <<< (v6 &&& 31))) (v5 ||| ((1 : Int32) <<< (v6 &&& 31))) (v6 + (1 : Int32)) m43 _ hf h
theorem fr_M_hangs {v1 : Int32} {v2 : Int32} {m : jMem} {r : (Int32 × jMem)} (h : f_M_hangs v1 v2 m = some r) : jfr W_M_hangs m r.2 := by
  unfold f_M_hangs at h
  have hf : jfr W_M_hangs m m := jfr_rf
  obtain ⟨m1, hm1, h⟩ := jpu_some h
  replace hf := jfr_tr hf (jfr_up hm1 rfl)
  obtain ⟨x2, m3, zm3, h⟩ := jbd_some h
  replace hf := jfr_tr hf (jfr_sub (W := W_M_isLetter) rfl (fr_M_isLetter zm3))
  refine jem (p := x2 = 0) (fun c => ?_) (fun c => ?_)
  · rw [if_pos c] at h
    cases h
    exact hf
  · rw [if_neg c] at h
    refine jem (p := v2 < 0) (fun c => ?_) (fun c => ?_)
    · rw [if_pos c] at h
      cases h
      exact hf
    · rw [if_neg c] at h
      refine jem (p := v2 ≤ (1 : Int32)) (fun c => ?_) (fun c => ?_)
      · rw [if_pos c] at h
        refine fr_lp_M_hangs_37 v1 v2 _ ?_ _ (0 : Int32) (0 : Int32) (0 : Int32) (v1 + (1 : Int32)) m3 _ hf h
        intro w61 w62 w63 m60 r hf h
        refine jem_ne (p := w61 = 0) (fun c => ?_) (fun c => ?_)
        · rw [if_neg c] at h
          refine jem_ne (p := v2 = 0) (fun c => ?_) (fun c => ?_)
          · rw [if_neg c] at h
            cases h
            exact hf
          · rw [if_pos c] at h
            cases h
            exact hf
        · rw [if_pos c] at h
          cases h
          exact hf
      · rw [if_neg c] at h
        cases h
        exact hf

def W_M_count : List (Nat × Nat) := [(109, 1)]
theorem fr_lp_M_count_116 {m0 : jMem} (k137 : Int32 → jMem → Option (Int32 × jMem))
    (hk137 : ∀ (v2 : Int32) (m : jMem) (r : (Int32 × jMem)), jfr W_M_count m0 m → k137 v2 m = some r → jfr W_M_count m0 r.2) : ∀ (n : Nat) (v2 : Int32) (v3 : Int32) (m : jMem) (r : (Int32 × jMem)), jfr W_M_count m0 m → lp_M_count_116 k137 n v2 v3 m = some r → jfr W_M_count m0 r.2 := by
  intro n
  induction n with
  | zero => intro v2 v3 m r hf h; unfold lp_M_count_116 at h; cases h
  | succ n ih =>
    intro v2 v3 m r hf h
    unfold lp_M_count_116 at h
    refine jem (p := (6 : Int32) ≤ v3) (fun c => ?_) (fun c => ?_)
    · rw [if_pos c] at h
      exact hk137 v2 m _ hf h
    · rw [if_neg c] at h
      obtain ⟨x2, ex2, g, h⟩ := jld_some h
      exact ih (v2 + x2) (v3 + (1 : Int32)) m _ hf h
theorem fr_lp_M_count_81 {m0 : jMem} (k112 : Int32 → jMem → Option (Int32 × jMem))
    (hk112 : ∀ (v2 : Int32) (m : jMem) (r : (Int32 × jMem)), jfr W_M_count m0 m → k112 v2 m = some r → jfr W_M_count m0 r.2) : ∀ (n : Nat) (v2 : Int32) (v3 : Int32) (m : jMem) (r : (Int32 × jMem)), jfr W_M_count m0 m → lp_M_count_81 k112 n v2 v3 m = some r → jfr W_M_count m0 r.2 := by
  intro n
  induction n with
  | zero => intro v2 v3 m r hf h; unfold lp_M_count_81 at h; cases h
  | succ n ih =>
    intro v2 v3 m r hf h
    unfold lp_M_count_81 at h
    refine jem (p := (m 109 44) ≤ v3) (fun c => ?_) (fun c => ?_)
    · rw [if_pos c] at h
      exact hk112 v2 m _ hf h
    · rw [if_neg c] at h
      obtain ⟨x5, ex5, g, h⟩ := jld_some h
      refine jem_ne (p := x5 = 0) (fun c => ?_) (fun c => ?_)
      · rw [if_neg c] at h
        exact ih (v2 + (0 : Int32)) (v3 + (1 : Int32)) m _ hf h
      · rw [if_pos c] at h
        exact ih (v2 + (1 : Int32)) (v3 + (1 : Int32)) m _ hf h
theorem fr_M_count {v1 : Int32} {m : jMem} {r : (Int32 × jMem)} (h : f_M_count v1 m = some r) : jfr W_M_count m r.2 := by
  unfold f_M_count at h
  have hf : jfr W_M_count m m := jfr_rf
  obtain ⟨m1, hm1, h⟩ := jpu_some h
  replace hf := jfr_tr hf (jfr_up hm1 rfl)
  by_cases c0 : v1 = (0 : Int32)
  · rw [if_pos c0] at h
    cases h
    exact hf
  · rw [if_neg c0] at h
    by_cases c1 : v1 = (1 : Int32)
    · rw [if_pos c1] at h
      cases h
      exact hf
    · rw [if_neg c1] at h
      by_cases c2 : v1 = (2 : Int32)
      · rw [if_pos c2] at h
        cases h
        exact hf
      · rw [if_neg c2] at h
        by_cases c3 : v1 = (3 : Int32)
        · rw [if_pos c3] at h
          refine fr_lp_M_count_81 _ ?_ _ (0 : Int32) (0 : Int32) m1 _ hf h
          intro w7 m6 r hf h
          cases h
          exact hf
        · rw [if_neg c3] at h
          by_cases c4 : v1 = (4 : Int32)
          · rw [if_pos c4] at h
            refine fr_lp_M_count_116 _ ?_ _ (0 : Int32) (0 : Int32) m1 _ hf h
            intro w4 m3 r hf h
            cases h
            exact hf
          · rw [if_neg c4] at h
            by_cases c5 : v1 = (5 : Int32)
            · rw [if_pos c5] at h
              cases h
              exact hf
            · rw [if_neg c5] at h
              by_cases c6 : v1 = (6 : Int32)
              · rw [if_pos c6] at h
                cases h
                exact hf
              · rw [if_neg c6] at h
                by_cases c7 : v1 = (7 : Int32)
                · rw [if_pos c7] at h
                  cases h
                  exact hf
                · rw [if_neg c7] at h
                  by_cases c8 : v1 = (8 : Int32)
                  · rw [if_pos c8] at h
                    cases h
                    exact hf
                  · rw [if_neg c8] at h
                    by_cases c9 : v1 = (9 : Int32)
                    · rw [if_pos c9] at h
                      cases h
                      exact hf
                    · rw [if_neg c9] at h
                      cases h
                      exact hf
