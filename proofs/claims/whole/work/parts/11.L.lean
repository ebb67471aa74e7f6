def lp_L_allOf_5 (v1 : Int32) (v2 : Nat) (k36 : Int32 → jMem → Option (Int32 × jMem)) : Nat → Int32 → Int32 → jMem → Option (Int32 × jMem)
  | 0, _, _, _ => none
  | n + 1, v3, v4, m =>
    if (m 29 15) ≤ v4 then
      k36 v3 m
    else
      jbd (f_C_isIn v1 v4 m) fun x1 m2 =>
      if x1 = 0 then
        lp_L_allOf_5 v1 v2 k36 n v3 (v4 + (1 : Int32)) m2
      else
        jld 1 m2 v2 v4 fun x3 =>
        lp_L_allOf_5 v1 v2 k36 n (v3 ||| x3) (v4 + (1 : Int32)) m2
def f_L_allOf (v1 : Int32) (v2 : Nat) (m : jMem) : Option (Int32 × jMem) :=
  lp_L_allOf_5 v1 v2 (fun w5 m4 =>
    some (w5, m4)) 5000 (0 : Int32) (0 : Int32) m
theorem jlp_L_allOf_5 {G : jG} (hG : jFul G) (v1 : Int32) (v2 : Nat) (k36 : Int32 → jMem → Option (Int32 × jMem))
    (hk36 : ∀ (v3 : Int32) (m : jMem) (r : (Int32 × jMem)), k36 v3 m = some r → J G Y_L_allOf 36 [(3, .int v3)] [] m (jri r)) : ∀ (n : Nat) (v3 : Int32) (v4 : Int32) (m : jMem) (r : (Int32 × jMem)), lp_L_allOf_5 v1 v2 k36 n v3 v4 m = some r → J G Y_L_allOf 5 [(0, jr G 29), (1, .int v1), (2, jr G v2), (3, .int v3), (4, .int v4)] [] m (jri r) := by
  intro n
  induction n with
  | zero => intro v3 v4 m r h; unfold lp_L_allOf_5 at h; cases h
  | succ n ih =>
    intro v3 v4 m r h
    unfold lp_L_allOf_5 at h
    refine J.iload 4 d_L_allOf_5 rfl ?_
    refine J.aload_n 0 d_L_allOf_7 rfl rfl ?_
    refine J.getI hG d_L_allOf_8 fl_L_57 ck_29_15 ?_
    refine J.icmp_ge 36 d_L_allOf_11 rfl (fun c => ?_) (fun c => ?_)
    · rw [if_pos c] at h
      exact J.sub (ls' := [(3, .int v3)]) [3] rfl (hk36 v3 m _ h)
    · rw [if_neg c] at h
      refine J.iload_n 1 d_L_allOf_14 rfl rfl ?_
      refine J.iload 4 d_L_allOf_15 rfl ?_
      obtain ⟨x1, m2, zm2, h⟩ := jbd_some h
      refine J.cSi Y_C_isIn (As := [.int v1, .int v4]) (rest := []) d_L_allOf_17 mi_C_isIn ms_C_isIn lk_L_68 ⟨rfl, rfl, Nat.le_of_ble_eq_true rfl⟩ (c_C_isIn hG zm2) rfl (Nat.le_trans jcN (Nat.le_of_ble_eq_true rfl)) ?_
      refine J.if_eq 30 d_L_allOf_20 rfl (fun c => ?_) (fun c => ?_)
      · rw [if_pos c] at h
        refine J.iinc 4 (v := (1 : Int32)) (lv := [(4, .int (v4 + (1 : Int32))), (0, jr G 29), (1, .int v1), (2, jr G v2), (3, .int v3)]) d_L_allOf_30 rfl ki_1 (by decide) rfl ?_
        refine J.goto 5 d_L_allOf_33 rfl ?_
        exact J.sub (ls' := [(0, jr G 29), (1, .int v1), (2, jr G v2), (3, .int v3), (4, .int (v4 + (1 : Int32)))]) [1, 2, 3, 4, 0] rfl (ih v3 (v4 + (1 : Int32)) m2 _ h)
      · rw [if_neg c] at h
        refine J.nop (pc' := 23) rfl ?_
        refine J.iload_n 3 d_L_allOf_23 rfl rfl ?_
        refine J.aload_n 2 d_L_allOf_24 rfl rfl ?_
        refine J.iload 4 d_L_allOf_25 rfl ?_
        obtain ⟨x3, ex3, g, h⟩ := jld_some h
        refine J.il hG d_L_allOf_27 g ex3 ?_
        refine J.ior d_L_allOf_28 ?_
        refine J.istore_n (lv := [(3, .int (v3 ||| x3)), (0, jr G 29), (1, .int v1), (2, jr G v2), (4, .int v4)]) d_L_allOf_29 rfl (by decide) (jfil rfl (jcaR (jcaI (jcaR (jcaI (jcaI jcaN)))))) ?_
        refine J.iinc 4 (v := (1 : Int32)) (lv := [(4, .int (v4 + (1 : Int32))), (3, .int (v3 ||| x3)), (0, jr G 29), (1, .int v1), (2, jr G v2)]) d_L_allOf_30 rfl ki_1 (by decide) rfl ?_
        refine J.goto 5 d_L_allOf_33 rfl ?_
        exact J.sub (ls' := [(0, jr G 29), (1, .int v1), (2, jr G v2), (3, .int (v3 ||| x3)), (4, .int (v4 + (1 : Int32)))]) [2, 3, 4, 1, 0] rfl (ih (v3 ||| x3) (v4 + (1 : Int32)) m2 _ h)
theorem c_L_allOf {G : jG} (hG : jFul G) {v1 : Int32} {v2 : Nat} {m : jMem} {r : (Int32 × jMem)} (h : f_L_allOf v1 v2 m = some r) : jCt G Y_L_allOf [jr G 29, .int v1, jr G v2] m (jri r) := by
  refine jCt.ov (ls := [(0, jr G 29), (1, .int v1), (2, jr G v2)]) mi_L_allOf (jAvR (jAvI (jAvR jAvN))) (Nat.le_of_ble_eq_true rfl) ?_ ⟨rfl, rfl⟩
  unfold f_L_allOf at h
  refine J.iconst (v := (0 : Int32)) d_L_allOf_0 ki_0 ?_
  refine J.istore_n (lv := [(3, .int (0 : Int32)), (0, jr G 29), (1, .int v1), (2, jr G v2)]) d_L_allOf_1 rfl (by decide) (jfil rfl (jcaR (jcaI (jcaR jcaN)))) ?_
  refine J.iconst (v := (0 : Int32)) d_L_allOf_2 ki_0 ?_
  refine J.istore (lv := [(4, .int (0 : Int32)), (3, .int (0 : Int32)), (0, jr G 29), (1, .int v1), (2, jr G v2)]) d_L_allOf_3 (by decide) rfl ?_
  refine J.sub (ls' := [(0, jr G 29), (1, .int v1), (2, jr G v2), (3, .int (0 : Int32)), (4, .int (0 : Int32))]) [2, 3, 4, 1, 0] rfl ?_
  refine jlp_L_allOf_5 hG v1 v2 _ ?_ _ (0 : Int32) (0 : Int32) m _ h
  intro w5 m4 r h
  refine J.iload_n 0 d_L_allOf_36 rfl rfl ?_
  cases h
  exact J.iret d_L_allOf_37 rfl (vp_nar_int _) rfl

def f_L_answered (v1 : Int32) (m : jMem) : Option (Int32 × jMem) :=
  jld 1 m 34 v1 fun x1 =>
  if x1 = (-1 : Int32) then
    jld 1 m 35 v1 fun x2 =>
    if x2 = (-1 : Int32) then
      some ((0 : Int32), m)
    else
      jld 1 m 35 v1 fun x3 =>
      jbd (f_C_bit x3 m) fun x4 m5 =>
      some (((0 : Int32) ||| x4), m5)
  else
    jld 1 m 34 v1 fun x6 =>
    jbd (f_C_bit x6 m) fun x7 m8 =>
    jld 1 m8 35 v1 fun x9 =>
    if x9 = (-1 : Int32) then
      some (((0 : Int32) ||| x7), m8)
    else
      jld 1 m8 35 v1 fun x10 =>
      jbd (f_C_bit x10 m8) fun x11 m12 =>
      some ((((0 : Int32) ||| x7) ||| x11), m12)
theorem c_L_answered {G : jG} (hG : jFul G) {v1 : Int32} {m : jMem} {r : (Int32 × jMem)} (h : f_L_answered v1 m = some r) : jCt G Y_L_answered [jr G 29, .int v1] m (jri r) := by
  refine jCt.ov (ls := [(0, jr G 29), (1, .int v1)]) mi_L_answered (jAvR (jAvI jAvN)) (Nat.le_of_ble_eq_true rfl) ?_ ⟨rfl, rfl⟩
  unfold f_L_answered at h
  refine J.iconst (v := (0 : Int32)) d_L_answered_0 ki_0 ?_
  refine J.istore_n (lv := [(2, .int (0 : Int32)), (0, jr G 29), (1, .int v1)]) d_L_answered_1 rfl (by decide) rfl ?_
  refine J.aload_n 1 d_L_answered_2 rfl rfl ?_
  refine J.getF (n := 34) hG d_L_answered_3 fl_L_24 ck_29_4 rfl ?_
  refine J.iload_n 2 d_L_answered_6 rfl rfl ?_
  obtain ⟨x1, ex1, g, h⟩ := jld_some h
  refine J.il hG d_L_answered_7 g ex1 ?_
  refine J.iconst (v := (-1 : Int32)) d_L_answered_8 ki_m1 ?_
  refine J.icmp_eq 24 d_L_answered_9 rfl (fun c => ?_) (fun c => ?_)
  · rw [if_pos c] at h
    refine J.aload_n 1 d_L_answered_24 rfl rfl ?_
    refine J.getF (n := 35) hG d_L_answered_25 fl_L_27 ck_29_5 rfl ?_
    refine J.iload_n 2 d_L_answered_28 rfl rfl ?_
    obtain ⟨x2, ex2, g, h⟩ := jld_some h
    refine J.il hG d_L_answered_29 g ex2 ?_
    refine J.iconst (v := (-1 : Int32)) d_L_answered_30 ki_m1 ?_
    refine J.icmp_eq 46 d_L_answered_31 rfl (fun c => ?_) (fun c => ?_)
    · rw [if_pos c] at h
      refine J.iload_n 0 d_L_answered_46 rfl rfl ?_
      cases h
      exact J.iret d_L_answered_47 rfl (vp_nar_int _) rfl
    · rw [if_neg c] at h
      refine J.iload_n 0 d_L_answered_34 rfl rfl ?_
      refine J.aload_n 1 d_L_answered_35 rfl rfl ?_
      refine J.nop (pc' := 36) rfl ?_
      refine J.getF (n := 35) hG d_L_answered_36 fl_L_27 ck_29_5 rfl ?_
      refine J.iload_n 2 d_L_answered_39 rfl rfl ?_
      obtain ⟨x3, ex3, g, h⟩ := jld_some h
      refine J.il hG d_L_answered_40 g ex3 ?_
      obtain ⟨x4, m5, zm5, h⟩ := jbd_some h
      refine J.cSi Y_C_bit (As := [.int x3]) (rest := [.int (0 : Int32)]) d_L_answered_41 mi_C_bit ms_C_bit lk_L_72 ⟨rfl, rfl, Nat.le_of_ble_eq_true rfl⟩ (c_C_bit hG zm5) rfl (Nat.le_trans (jcI jcN) (Nat.le_of_ble_eq_true rfl)) ?_
      refine J.ior d_L_answered_44 ?_
      refine J.istore_n (lv := [(2, .int ((0 : Int32) ||| x4)), (0, jr G 29), (1, .int v1)]) d_L_answered_45 rfl (by decide) rfl ?_
      refine J.iload_n 0 d_L_answered_46 rfl rfl ?_
      cases h
      exact J.iret d_L_answered_47 rfl (vp_nar_int _) rfl
  · rw [if_neg c] at h
    refine J.nop (pc' := 12) rfl ?_
    refine J.iload_n 0 d_L_answered_12 rfl rfl ?_
    refine J.aload_n 1 d_L_answered_13 rfl rfl ?_
    refine J.getF (n := 34) hG d_L_answered_14 fl_L_24 ck_29_4 rfl ?_
    refine J.iload_n 2 d_L_answered_17 rfl rfl ?_
    obtain ⟨x6, ex6, g, h⟩ := jld_some h
    refine J.il hG d_L_answered_18 g ex6 ?_
    obtain ⟨x7, m8, zm8, h⟩ := jbd_some h
    refine J.cSi Y_C_bit (As := [.int x6]) (rest := [.int (0 : Int32)]) d_L_answered_19 mi_C_bit ms_C_bit lk_L_72 ⟨rfl, rfl, Nat.le_of_ble_eq_true rfl⟩ (c_C_bit hG zm8) rfl (Nat.le_trans (jcI jcN) (Nat.le_of_ble_eq_true rfl)) ?_
    refine J.ior d_L_answered_22 ?_
    refine J.istore_n (lv := [(2, .int ((0 : Int32) ||| x7)), (0, jr G 29), (1, .int v1)]) d_L_answered_23 rfl (by decide) rfl ?_
    refine J.nop (pc' := 24) rfl ?_
    refine J.aload_n 1 d_L_answered_24 rfl rfl ?_
    refine J.getF (n := 35) hG d_L_answered_25 fl_L_27 ck_29_5 rfl ?_
    refine J.iload_n 2 d_L_answered_28 rfl rfl ?_
    obtain ⟨x9, ex9, g, h⟩ := jld_some h
    refine J.il hG d_L_answered_29 g ex9 ?_
    refine J.iconst (v := (-1 : Int32)) d_L_answered_30 ki_m1 ?_
    refine J.icmp_eq 46 d_L_answered_31 rfl (fun c => ?_) (fun c => ?_)
    · rw [if_pos c] at h
      refine J.iload_n 0 d_L_answered_46 rfl rfl ?_
      cases h
      exact J.iret d_L_answered_47 rfl (vp_nar_int _) rfl
    · rw [if_neg c] at h
      refine J.iload_n 0 d_L_answered_34 rfl rfl ?_
      refine J.aload_n 1 d_L_answered_35 rfl rfl ?_
      refine J.nop (pc' := 36) rfl ?_
      refine J.getF (n := 35) hG d_L_answered_36 fl_L_27 ck_29_5 rfl ?_
      refine J.iload_n 2 d_L_answered_39 rfl rfl ?_
      obtain ⟨x10, ex10, g, h⟩ := jld_some h
      refine J.il hG d_L_answered_40 g ex10 ?_
      obtain ⟨x11, m12, zm12, h⟩ := jbd_some h
      refine J.cSi Y_C_bit (As := [.int x10]) (rest := [.int ((0 : Int32) ||| x7)]) d_L_answered_41 mi_C_bit ms_C_bit lk_L_72 ⟨rfl, rfl, Nat.le_of_ble_eq_true rfl⟩ (c_C_bit hG zm12) rfl (Nat.le_trans (jcI jcN) (Nat.le_of_ble_eq_true rfl)) ?_
      refine J.ior d_L_answered_44 ?_
      refine J.istore_n (lv := [(2, .int (((0 : Int32) ||| x7) ||| x11)), (0, jr G 29), (1, .int v1)]) d_L_answered_45 rfl (by decide) rfl ?_
      refine J.iload_n 0 d_L_answered_46 rfl rfl ?_
      cases h
      exact J.iret d_L_answered_47 rfl (vp_nar_int _) rfl

def lp_L_greatestSum_4 (v1 : Int32) (k37 : Int32 → jMem → Option (Int32 × jMem)) : Nat → Int32 → Int32 → jMem → Option (Int32 × jMem)
  | 0, _, _, _ => none
  | n + 1, v2, v3, m =>
    if (m 29 15) ≤ v3 then
      k37 v2 m
    else
      jbd (f_C_isIn v1 v3 m) fun x1 m2 =>
      if x1 = 0 then
        lp_L_greatestSum_4 v1 k37 n v2 (v3 + (1 : Int32)) m2
      else
        jld 1 m2 41 v3 fun x3 =>
        lp_L_greatestSum_4 v1 k37 n (jmax v2 x3) (v3 + (1 : Int32)) m2
def f_L_greatestSum (v1 : Int32) (m : jMem) : Option (Int32 × jMem) :=
  lp_L_greatestSum_4 v1 (fun w5 m4 =>
    some (w5, m4)) 5000 (0 : Int32) (0 : Int32) m
theorem jlp_L_greatestSum_4 {G : jG} (hG : jFul G) (v1 : Int32) (k37 : Int32 → jMem → Option (Int32 × jMem))
    (hk37 : ∀ (v2 : Int32) (m : jMem) (r : (Int32 × jMem)), k37 v2 m = some r → J G Y_L_greatestSum 37 [(2, .int v2)] [] m (jri r)) : ∀ (n : Nat) (v2 : Int32) (v3 : Int32) (m : jMem) (r : (Int32 × jMem)), lp_L_greatestSum_4 v1 k37 n v2 v3 m = some r → J G Y_L_greatestSum 4 [(0, jr G 29), (1, .int v1), (2, .int v2), (3, .int v3)] [] m (jri r) := by
  intro n
  induction n with
  | zero => intro v2 v3 m r h; unfold lp_L_greatestSum_4 at h; cases h
  | succ n ih =>
    intro v2 v3 m r h
    unfold lp_L_greatestSum_4 at h
    refine J.iload_n 3 d_L_greatestSum_4 rfl rfl ?_
    refine J.aload_n 0 d_L_greatestSum_5 rfl rfl ?_
    refine J.getI hG d_L_greatestSum_6 fl_L_57 ck_29_15 ?_
    refine J.icmp_ge 37 d_L_greatestSum_9 rfl (fun c => ?_) (fun c => ?_)
    · rw [if_pos c] at h
      exact J.sub (ls' := [(2, .int v2)]) [2] rfl (hk37 v2 m _ h)
    · rw [if_neg c] at h
      refine J.iload_n 1 d_L_greatestSum_12 rfl rfl ?_
      refine J.iload_n 3 d_L_greatestSum_13 rfl rfl ?_
      obtain ⟨x1, m2, zm2, h⟩ := jbd_some h
      refine J.cSi Y_C_isIn (As := [.int v1, .int v3]) (rest := []) d_L_greatestSum_14 mi_C_isIn ms_C_isIn lk_L_68 ⟨rfl, rfl, Nat.le_of_ble_eq_true rfl⟩ (c_C_isIn hG zm2) rfl (Nat.le_trans jcN (Nat.le_of_ble_eq_true rfl)) ?_
      refine J.if_eq 31 d_L_greatestSum_17 rfl (fun c => ?_) (fun c => ?_)
      · rw [if_pos c] at h
        refine J.iinc 3 (v := (1 : Int32)) (lv := [(3, .int (v3 + (1 : Int32))), (0, jr G 29), (1, .int v1), (2, .int v2)]) d_L_greatestSum_31 rfl ki_1 (by decide) rfl ?_
        refine J.goto 4 d_L_greatestSum_34 rfl ?_
        exact J.sub (ls' := [(0, jr G 29), (1, .int v1), (2, .int v2), (3, .int (v3 + (1 : Int32)))]) [1, 2, 3, 0] rfl (ih v2 (v3 + (1 : Int32)) m2 _ h)
      · rw [if_neg c] at h
        refine J.nop (pc' := 20) rfl ?_
        refine J.iload_n 2 d_L_greatestSum_20 rfl rfl ?_
        refine J.aload_n 0 d_L_greatestSum_21 rfl rfl ?_
        refine J.getF (n := 41) hG d_L_greatestSum_22 fl_L_45 ck_29_11 rfl ?_
        refine J.iload_n 3 d_L_greatestSum_25 rfl rfl ?_
        obtain ⟨x3, ex3, g, h⟩ := jld_some h
        refine J.il hG d_L_greatestSum_26 g ex3 ?_
        refine J.mx d_L_greatestSum_27 (jt_3 233 rfl rfl) (jt_3 69 rfl rfl) (jt_1 14 rfl rfl) (jt_3 70 rfl rfl) (Nat.le_trans jcN (Nat.le_of_ble_eq_true rfl)) ?_
        refine J.istore_n (lv := [(2, .int (jmax v2 x3)), (0, jr G 29), (1, .int v1), (3, .int v3)]) d_L_greatestSum_30 rfl (by decide) rfl ?_
        refine J.iinc 3 (v := (1 : Int32)) (lv := [(3, .int (v3 + (1 : Int32))), (2, .int (jmax v2 x3)), (0, jr G 29), (1, .int v1)]) d_L_greatestSum_31 rfl ki_1 (by decide) rfl ?_
        refine J.nop (pc' := 34) rfl ?_
        refine J.goto 4 d_L_greatestSum_34 rfl ?_
        exact J.sub (ls' := [(0, jr G 29), (1, .int v1), (2, .int (jmax v2 x3)), (3, .int (v3 + (1 : Int32)))]) [2, 3, 1, 0] rfl (ih (jmax v2 x3) (v3 + (1 : Int32)) m2 _ h)
theorem c_L_greatestSum {G : jG} (hG : jFul G) {v1 : Int32} {m : jMem} {r : (Int32 × jMem)} (h : f_L_greatestSum v1 m = some r) : jCt G Y_L_greatestSum [jr G 29, .int v1] m (jri r) := by
  refine jCt.ov (ls := [(0, jr G 29), (1, .int v1)]) mi_L_greatestSum (jAvR (jAvI jAvN)) (Nat.le_of_ble_eq_true rfl) ?_ ⟨rfl, rfl⟩
  unfold f_L_greatestSum at h
  refine J.iconst (v := (0 : Int32)) d_L_greatestSum_0 ki_0 ?_
  refine J.istore_n (lv := [(2, .int (0 : Int32)), (0, jr G 29), (1, .int v1)]) d_L_greatestSum_1 rfl (by decide) rfl ?_
  refine J.iconst (v := (0 : Int32)) d_L_greatestSum_2 ki_0 ?_
  refine J.istore_n (lv := [(3, .int (0 : Int32)), (2, .int (0 : Int32)), (0, jr G 29), (1, .int v1)]) d_L_greatestSum_3 rfl (by decide) rfl ?_
  refine J.sub (ls' := [(0, jr G 29), (1, .int v1), (2, .int (0 : Int32)), (3, .int (0 : Int32))]) [2, 3, 1, 0] rfl ?_
  refine jlp_L_greatestSum_4 hG v1 _ ?_ _ (0 : Int32) (0 : Int32) m _ h
  intro w5 m4 r h
  refine J.iload_n 0 d_L_greatestSum_37 rfl rfl ?_
  cases h
  exact J.iret d_L_greatestSum_38 rfl (vp_nar_int _) rfl

def lp_L_add_231 (v4 : Int32) (v8 : Int32) (k269 : jMem → Option (Int32 × jMem)) : Nat → Int32 → jMem → Option (Int32 × jMem)
  | 0, _, _ => none
  | n + 1, v9, m =>
    if (6 : Int32) ≤ v9 then
      k269 m
    else
      jbd (f_C_isIn v4 v9 m) fun x38 m39 =>
      if x38 = 0 then
        lp_L_add_231 v4 v8 k269 n (v9 + (1 : Int32)) m39
      else
        jld 1 m39 43 v9 fun x40 =>
        jbd (f_C_bit v8 m39) fun x41 m42 =>
        jst 1 m42 43 v9 (x40 ||| x41) fun m43 =>
        lp_L_add_231 v4 v8 k269 n (v9 + (1 : Int32)) m43
def f_L_add (v1 : Int32) (v2 : Int32) (v3 : Int32) (v4 : Int32) (v5 : Int32) (v6 : Int32) (v7 : Int32) (m : jMem) : Option (Int32 × jMem) :=
  if (30 : Int32) ≤ (m 29 15) then
    some ((-1 : Int32), m)
  else
    jbd (f_C_isWriter v1 m) fun x1 m2 =>
    if x1 = 0 then
      some ((-1 : Int32), m2)
    else
      jst 1 m2 30 (m2 29 15) v1 fun m3 =>
      jst 1 m3 31 (m2 29 15) v2 fun m4 =>
      jst 1 m4 32 (m2 29 15) v3 fun m5 =>
      jst 1 m5 33 (m2 29 15) v4 fun m6 =>
      jst 1 m6 34 (m2 29 15) v5 fun m7 =>
      jst 1 m7 35 (m2 29 15) v6 fun m8 =>
      jst 1 m8 36 (m2 29 15) v7 fun m9 =>
      jbd (f_L_allOf v7 37 m9) fun x10 m11 =>
      jst 1 m11 37 (m2 29 15) (v7 ||| x10) fun m12 =>
      jbd (f_L_answered (m2 29 15) m12) fun x13 m14 =>
      jbd (f_L_answered (m2 29 15) m14) fun x15 m16 =>
      jbd (f_L_allOf x15 38 m16) fun x17 m18 =>
      jst 1 m18 38 (m2 29 15) (x13 ||| x17) fun m19 =>
      jld 1 m19 37 (m2 29 15) fun x20 =>
      jld 1 m19 37 (m2 29 15) fun x21 =>
      jbd (f_L_allOf x21 37 m19) fun x22 m23 =>
      jst 1 m23 39 (m2 29 15) (x20 &&& (x22 ^^^ (-1 : Int32))) fun m24 =>
      jld 1 m24 39 (m2 29 15) fun x25 =>
      jld 1 m24 39 (m2 29 15) fun x26 =>
      jbd (f_L_allOf x26 40 m24) fun x27 m28 =>
      jst 1 m28 40 (m2 29 15) (x25 ||| x27) fun m29 =>
      jld 1 m29 37 (m2 29 15) fun x30 =>
      jbd (f_L_greatestSum x30 m29) fun x31 m32 =>
      jst 1 m32 41 (m2 29 15) ((1 : Int32) + x31) fun m33 =>
      jld 1 m33 42 v1 fun x34 =>
      jbd (f_C_bit (m2 29 15) m33) fun x35 m36 =>
      jst 1 m36 42 v1 (x34 ||| x35) fun m37 =>
      lp_L_add_231 v4 (m2 29 15) (fun m44 =>
        jbd (f_C_bit (m2 29 15) m44) fun x45 m46 =>
        jpu m46 29 16 ((m44 29 16) ||| x45) fun m47 =>
        jpu m47 29 15 ((m47 29 15) + (1 : Int32)) fun m48 =>
        some ((m2 29 15), m48)) 5000 (0 : Int32) m37
theorem jlp_L_add_231 {G : jG} (hG : jFul G) (v4 : Int32) (v8 : Int32) (k269 : jMem → Option (Int32 × jMem))
    (hk269 : ∀ (m : jMem) (r : (Int32 × jMem)), k269 m = some r → J G Y_L_add 269 [(0, jr G 29), (8, .int v8)] [] m (jri r)) : ∀ (n : Nat) (v9 : Int32) (m : jMem) (r : (Int32 × jMem)), lp_L_add_231 v4 v8 k269 n v9 m = some r → J G Y_L_add 231 [(0, jr G 29), (4, .int v4), (8, .int v8), (9, .int v9)] [] m (jri r) := by
  intro n
  induction n with
  | zero => intro v9 m r h; unfold lp_L_add_231 at h; cases h
  | succ n ih =>
    intro v9 m r h
    unfold lp_L_add_231 at h
    refine J.iload 3 d_L_add_231 rfl ?_
    refine J.bipush (v := (6 : Int32)) d_L_add_233 kb_6 ?_
    refine J.icmp_ge 269 d_L_add_235 rfl (fun c => ?_) (fun c => ?_)
    · rw [if_pos c] at h
      exact J.sub (ls' := [(0, jr G 29), (8, .int v8)]) [0, 2] rfl (hk269  m _ h)
    · rw [if_neg c] at h
      refine J.iload 1 d_L_add_238 rfl ?_
      refine J.iload 3 d_L_add_240 rfl ?_
      obtain ⟨x38, m39, zm39, h⟩ := jbd_some h
      refine J.cSi Y_C_isIn (As := [.int v4, .int v9]) (rest := []) d_L_add_242 mi_C_isIn ms_C_isIn lk_L_68 ⟨rfl, rfl, Nat.le_of_ble_eq_true rfl⟩ (c_C_isIn hG zm39) rfl (Nat.le_trans jcN (Nat.le_of_ble_eq_true rfl)) ?_
      refine J.if_eq 263 d_L_add_245 rfl (fun c => ?_) (fun c => ?_)
      · rw [if_pos c] at h
        refine J.iinc 3 (v := (1 : Int32)) (lv := [(9, .int (v9 + (1 : Int32))), (0, jr G 29), (4, .int v4), (8, .int v8)]) d_L_add_263 rfl ki_1 (by decide) rfl ?_
        refine J.goto 231 d_L_add_266 rfl ?_
        exact J.sub (ls' := [(0, jr G 29), (4, .int v4), (8, .int v8), (9, .int (v9 + (1 : Int32)))]) [1, 2, 3, 0] rfl (ih (v9 + (1 : Int32)) m39 _ h)
      · rw [if_neg c] at h
        refine J.aload_n 0 d_L_add_248 rfl rfl ?_
        refine J.nop (pc' := 249) rfl ?_
        refine J.getF (n := 43) hG d_L_add_249 fl_L_51 ck_29_13 rfl ?_
        refine J.iload 3 d_L_add_252 rfl ?_
        refine J.dup2 d_L_add_254 rfl (jr_cat _ _) ?_
        obtain ⟨x40, ex40, g, h⟩ := jld_some h
        refine J.il hG d_L_add_255 g ex40 ?_
        refine J.iload 2 d_L_add_256 rfl ?_
        obtain ⟨x41, m42, zm42, h⟩ := jbd_some h
        refine J.cSi Y_C_bit (As := [.int v8]) (rest := [.int x40, .int v9, jr G 43]) d_L_add_258 mi_C_bit ms_C_bit lk_L_72 ⟨rfl, rfl, Nat.le_of_ble_eq_true rfl⟩ (c_C_bit hG zm42) rfl (Nat.le_trans (jcI (jcI (jcR jcN))) (Nat.le_of_ble_eq_true rfl)) ?_
        refine J.ior d_L_add_261 ?_
        obtain ⟨m43, hm43, g, h⟩ := jst_some h
        refine J.is hG d_L_add_262 g hm43 ?_
        refine J.nop (pc' := 263) rfl ?_
        refine J.iinc 3 (v := (1 : Int32)) (lv := [(9, .int (v9 + (1 : Int32))), (0, jr G 29), (4, .int v4), (8, .int v8)]) d_L_add_263 rfl ki_1 (by decide) rfl ?_
        refine J.goto 231 d_L_add_266 rfl ?_
        exact J.sub (ls' := [(0, jr G 29), (4, .int v4), (8, .int v8), (9, .int (v9 + (1 : Int32)))]) [1, 2, 3, 0] rfl (ih (v9 + (1 : Int32)) m43 _ h)
theorem c_L_add {G : jG} (hG : jFul G) {v1 : Int32} {v2 : Int32} {v3 : Int32} {v4 : Int32} {v5 : Int32} {v6 : Int32} {v7 : Int32} {m : jMem} {r : (Int32 × jMem)} (h : f_L_add v1 v2 v3 v4 v5 v6 v7 m = some r) : jCt G Y_L_add [jr G 29, .int v1, .int v2, .int v3, .int v4, .int v5, .int v6, .int v7] m (jri r) := by
  refine jCt.ov (ls := [(0, jr G 29), (1, .int v1), (2, .int v2), (3, .int v3), (4, .int v4), (5, .int v5), (6, .int v6), (7, .int v7)]) mi_L_add (jAvR (jAvI (jAvI (jAvI (jAvI (jAvI (jAvI (jAvI jAvN)))))))) (Nat.le_of_ble_eq_true rfl) ?_ ⟨rfl, rfl⟩
  unfold f_L_add at h
  refine J.aload_n 0 d_L_add_0 rfl rfl ?_
  refine J.getI hG d_L_add_1 fl_L_57 ck_29_15 ?_
  refine J.bipush (v := (30 : Int32)) d_L_add_4 kb_30 ?_
  refine J.icmp_ge 16 d_L_add_6 rfl (fun c => ?_) (fun c => ?_)
  · rw [if_pos c] at h
    refine J.iconst (v := (-1 : Int32)) d_L_add_16 ki_m1 ?_
    cases h
    exact J.iret d_L_add_17 rfl (vp_nar_int _) rfl
  · rw [if_neg c] at h
    refine J.iload_n 1 d_L_add_9 rfl rfl ?_
    obtain ⟨x1, m2, zm2, h⟩ := jbd_some h
    refine J.cSi Y_C_isWriter (As := [.int v1]) (rest := []) d_L_add_10 mi_C_isWriter ms_C_isWriter lk_L_76 ⟨rfl, rfl, Nat.le_of_ble_eq_true rfl⟩ (c_C_isWriter hG zm2) rfl (Nat.le_trans jcN (Nat.le_of_ble_eq_true rfl)) ?_
    refine J.if_ne 18 d_L_add_13 rfl (fun c => ?_) (fun c => ?_)
    · rw [if_neg c] at h
      refine J.aload_n 0 d_L_add_18 rfl rfl ?_
      refine J.getI hG d_L_add_19 fl_L_57 ck_29_15 ?_
      refine J.istore (lv := [(8, .int (m2 29 15)), (0, jr G 29), (1, .int v1), (2, .int v2), (3, .int v3), (4, .int v4), (5, .int v5), (6, .int v6), (7, .int v7)]) d_L_add_22 (by decide) rfl ?_
      refine J.aload_n 1 d_L_add_24 rfl rfl ?_
      refine J.getF (n := 30) hG d_L_add_25 fl_L_9 ck_29_0 rfl ?_
      refine J.iload 0 d_L_add_28 rfl ?_
      refine J.iload_n 2 d_L_add_30 rfl rfl ?_
      obtain ⟨m3, hm3, g, h⟩ := jst_some h
      refine J.is hG d_L_add_31 g hm3 ?_
      refine J.nop (pc' := 32) rfl ?_
      refine J.aload_n 1 d_L_add_32 rfl rfl ?_
      refine J.getF (n := 31) hG d_L_add_33 fl_L_15 ck_29_1 rfl ?_
      refine J.iload 0 d_L_add_36 rfl ?_
      refine J.iload_n 3 d_L_add_38 rfl rfl ?_
      obtain ⟨m4, hm4, g, h⟩ := jst_some h
      refine J.is hG d_L_add_39 g hm4 ?_
      refine J.aload_n 1 d_L_add_40 rfl rfl ?_
      refine J.getF (n := 32) hG d_L_add_41 fl_L_18 ck_29_2 rfl ?_
      refine J.iload 0 d_L_add_44 rfl ?_
      refine J.nop (pc' := 46) rfl ?_
      refine J.iload_n 4 d_L_add_46 rfl rfl ?_
      obtain ⟨m5, hm5, g, h⟩ := jst_some h
      refine J.is hG d_L_add_47 g hm5 ?_
      refine J.aload_n 1 d_L_add_48 rfl rfl ?_
      refine J.getF (n := 33) hG d_L_add_49 fl_L_21 ck_29_3 rfl ?_
      refine J.iload 0 d_L_add_52 rfl ?_
      refine J.iload 5 d_L_add_54 rfl ?_
      obtain ⟨m6, hm6, g, h⟩ := jst_some h
      refine J.is hG d_L_add_56 g hm6 ?_
      refine J.aload_n 1 d_L_add_57 rfl rfl ?_
      refine J.nop (pc' := 58) rfl ?_
      refine J.getF (n := 34) hG d_L_add_58 fl_L_24 ck_29_4 rfl ?_
      refine J.iload 0 d_L_add_61 rfl ?_
      refine J.iload 6 d_L_add_63 rfl ?_
      obtain ⟨m7, hm7, g, h⟩ := jst_some h
      refine J.is hG d_L_add_65 g hm7 ?_
      refine J.aload_n 1 d_L_add_66 rfl rfl ?_
      refine J.getF (n := 35) hG d_L_add_67 fl_L_27 ck_29_5 rfl ?_
      refine J.iload 0 d_L_add_70 rfl ?_
      refine J.iload 7 d_L_add_72 rfl ?_
      refine J.nop (pc' := 74) rfl ?_
      obtain ⟨m8, hm8, g, h⟩ := jst_some h
      refine J.is hG d_L_add_74 g hm8 ?_
      refine J.aload_n 1 d_L_add_75 rfl rfl ?_
      refine J.getF (n := 36) hG d_L_add_76 fl_L_30 ck_29_6 rfl ?_
      refine J.iload 0 d_L_add_79 rfl ?_
      refine J.iload 8 d_L_add_81 rfl ?_
      obtain ⟨m9, hm9, g, h⟩ := jst_some h
      refine J.is hG d_L_add_83 g hm9 ?_
      refine J.aload_n 1 d_L_add_84 rfl rfl ?_
      refine J.getF (n := 37) hG d_L_add_85 fl_L_33 ck_29_7 rfl ?_
      refine J.nop (pc' := 88) rfl ?_
      refine J.iload 0 d_L_add_88 rfl ?_
      refine J.iload 8 d_L_add_90 rfl ?_
      refine J.aload_n 1 d_L_add_92 rfl rfl ?_
      refine J.iload 8 d_L_add_93 rfl ?_
      refine J.aload_n 1 d_L_add_95 rfl rfl ?_
      refine J.getF (n := 37) hG d_L_add_96 fl_L_33 ck_29_7 rfl ?_
      obtain ⟨x10, m11, zm11, h⟩ := jbd_some h
      refine J.cVi Y_L_allOf (As := [.int v7, jr G 37]) (rest := [.int v7, .int (m2 29 15), jr G 37]) hG d_L_add_99 mi_L_allOf mv_L_allOf lk_L_79 ⟨rfl, rfl, Nat.le_of_ble_eq_true rfl⟩ cq_29 cc_4 (c_L_allOf hG zm11) rfl (Nat.le_trans (jcI (jcI (jcR jcN))) (Nat.le_of_ble_eq_true rfl)) ?_
      refine J.ior d_L_add_102 ?_
      refine J.nop (pc' := 103) rfl ?_
      obtain ⟨m12, hm12, g, h⟩ := jst_some h
      refine J.is hG d_L_add_103 g hm12 ?_
      refine J.aload_n 1 d_L_add_104 rfl rfl ?_
      refine J.getF (n := 38) hG d_L_add_105 fl_L_36 ck_29_8 rfl ?_
      refine J.iload 0 d_L_add_108 rfl ?_
      refine J.aload_n 1 d_L_add_110 rfl rfl ?_
      refine J.iload 0 d_L_add_111 rfl ?_
      obtain ⟨x13, m14, zm14, h⟩ := jbd_some h
      refine J.cVi Y_L_answered (As := [.int (m2 29 15)]) (rest := [.int (m2 29 15), jr G 38]) hG d_L_add_113 mi_L_answered mv_L_answered lk_L_83 ⟨rfl, rfl, Nat.le_of_ble_eq_true rfl⟩ cq_29 cc_4 (c_L_answered hG zm14) rfl (Nat.le_trans (jcI (jcR jcN)) (Nat.le_of_ble_eq_true rfl)) ?_
      refine J.aload_n 1 d_L_add_116 rfl rfl ?_
      refine J.nop (pc' := 117) rfl ?_
      refine J.aload_n 1 d_L_add_117 rfl rfl ?_
      refine J.iload 0 d_L_add_118 rfl ?_
      obtain ⟨x15, m16, zm16, h⟩ := jbd_some h
      refine J.cVi Y_L_answered (As := [.int (m2 29 15)]) (rest := [jr G 29, .int x13, .int (m2 29 15), jr G 38]) hG d_L_add_120 mi_L_answered mv_L_answered lk_L_83 ⟨rfl, rfl, Nat.le_of_ble_eq_true rfl⟩ cq_29 cc_4 (c_L_answered hG zm16) rfl (Nat.le_trans (jcR (jcI (jcI (jcR jcN)))) (Nat.le_of_ble_eq_true rfl)) ?_
      refine J.aload_n 1 d_L_add_123 rfl rfl ?_
      refine J.getF (n := 38) hG d_L_add_124 fl_L_36 ck_29_8 rfl ?_
      obtain ⟨x17, m18, zm18, h⟩ := jbd_some h
      refine J.cVi Y_L_allOf (As := [.int x15, jr G 38]) (rest := [.int x13, .int (m2 29 15), jr G 38]) hG d_L_add_127 mi_L_allOf mv_L_allOf lk_L_79 ⟨rfl, rfl, Nat.le_of_ble_eq_true rfl⟩ cq_29 cc_4 (c_L_allOf hG zm18) rfl (Nat.le_trans (jcI (jcI (jcR jcN))) (Nat.le_of_ble_eq_true rfl)) ?_
      refine J.ior d_L_add_130 ?_
      obtain ⟨m19, hm19, g, h⟩ := jst_some h
      refine J.is hG d_L_add_131 g hm19 ?_
      refine J.nop (pc' := 132) rfl ?_
      refine J.aload_n 1 d_L_add_132 rfl rfl ?_
      refine J.getF (n := 39) hG d_L_add_133 fl_L_39 ck_29_9 rfl ?_
      refine J.iload 0 d_L_add_136 rfl ?_
      refine J.aload_n 1 d_L_add_138 rfl rfl ?_
      refine J.getF (n := 37) hG d_L_add_139 fl_L_33 ck_29_7 rfl ?_
      refine J.iload 0 d_L_add_142 rfl ?_
      obtain ⟨x20, ex20, g, h⟩ := jld_some h
      refine J.il hG d_L_add_144 g ex20 ?_
      refine J.aload_n 1 d_L_add_145 rfl rfl ?_
      refine J.nop (pc' := 146) rfl ?_
      refine J.aload_n 1 d_L_add_146 rfl rfl ?_
      refine J.getF (n := 37) hG d_L_add_147 fl_L_33 ck_29_7 rfl ?_
      refine J.iload 0 d_L_add_150 rfl ?_
      obtain ⟨x21, ex21, g, h⟩ := jld_some h
      refine J.il hG d_L_add_152 g ex21 ?_
      refine J.aload_n 1 d_L_add_153 rfl rfl ?_
      refine J.getF (n := 37) hG d_L_add_154 fl_L_33 ck_29_7 rfl ?_
      obtain ⟨x22, m23, zm23, h⟩ := jbd_some h
      refine J.cVi Y_L_allOf (As := [.int x21, jr G 37]) (rest := [.int x20, .int (m2 29 15), jr G 39]) hG d_L_add_157 mi_L_allOf mv_L_allOf lk_L_79 ⟨rfl, rfl, Nat.le_of_ble_eq_true rfl⟩ cq_29 cc_4 (c_L_allOf hG zm23) rfl (Nat.le_trans (jcI (jcI (jcR jcN))) (Nat.le_of_ble_eq_true rfl)) ?_
      refine J.iconst (v := (-1 : Int32)) d_L_add_160 ki_m1 ?_
      refine J.nop (pc' := 161) rfl ?_
      refine J.ixor d_L_add_161 ?_
      refine J.iand d_L_add_162 ?_
      obtain ⟨m24, hm24, g, h⟩ := jst_some h
      refine J.is hG d_L_add_163 g hm24 ?_
      refine J.aload_n 1 d_L_add_164 rfl rfl ?_
      refine J.getF (n := 40) hG d_L_add_165 fl_L_42 ck_29_10 rfl ?_
      refine J.iload 0 d_L_add_168 rfl ?_
      refine J.aload_n 1 d_L_add_170 rfl rfl ?_
      refine J.getF (n := 39) hG d_L_add_171 fl_L_39 ck_29_9 rfl ?_
      refine J.nop (pc' := 174) rfl ?_
      refine J.iload 0 d_L_add_174 rfl ?_
      obtain ⟨x25, ex25, g, h⟩ := jld_some h
      refine J.il hG d_L_add_176 g ex25 ?_
      refine J.aload_n 1 d_L_add_177 rfl rfl ?_
      refine J.aload_n 1 d_L_add_178 rfl rfl ?_
      refine J.getF (n := 39) hG d_L_add_179 fl_L_39 ck_29_9 rfl ?_
      refine J.iload 0 d_L_add_182 rfl ?_
      obtain ⟨x26, ex26, g, h⟩ := jld_some h
      refine J.il hG d_L_add_184 g ex26 ?_
      refine J.aload_n 1 d_L_add_185 rfl rfl ?_
      refine J.nop (pc' := 186) rfl ?_
      refine J.getF (n := 40) hG d_L_add_186 fl_L_42 ck_29_10 rfl ?_
      obtain ⟨x27, m28, zm28, h⟩ := jbd_some h
      refine J.cVi Y_L_allOf (As := [.int x26, jr G 40]) (rest := [.int x25, .int (m2 29 15), jr G 40]) hG d_L_add_189 mi_L_allOf mv_L_allOf lk_L_79 ⟨rfl, rfl, Nat.le_of_ble_eq_true rfl⟩ cq_29 cc_4 (c_L_allOf hG zm28) rfl (Nat.le_trans (jcI (jcI (jcR jcN))) (Nat.le_of_ble_eq_true rfl)) ?_
      refine J.ior d_L_add_192 ?_
      obtain ⟨m29, hm29, g, h⟩ := jst_some h
      refine J.is hG d_L_add_193 g hm29 ?_
      refine J.aload_n 1 d_L_add_194 rfl rfl ?_
      refine J.getF (n := 41) hG d_L_add_195 fl_L_45 ck_29_11 rfl ?_
      refine J.iload 0 d_L_add_198 rfl ?_
      refine J.iconst (v := (1 : Int32)) d_L_add_200 ki_1 ?_
      refine J.nop (pc' := 201) rfl ?_
      refine J.aload_n 1 d_L_add_201 rfl rfl ?_
      refine J.aload_n 1 d_L_add_202 rfl rfl ?_
      refine J.getF (n := 37) hG d_L_add_203 fl_L_33 ck_29_7 rfl ?_
      refine J.iload 0 d_L_add_206 rfl ?_
      obtain ⟨x30, ex30, g, h⟩ := jld_some h
      refine J.il hG d_L_add_208 g ex30 ?_
      obtain ⟨x31, m32, zm32, h⟩ := jbd_some h
      refine J.cVi Y_L_greatestSum (As := [.int x30]) (rest := [.int (1 : Int32), .int (m2 29 15), jr G 41]) hG d_L_add_209 mi_L_greatestSum mv_L_greatestSum lk_L_86 ⟨rfl, rfl, Nat.le_of_ble_eq_true rfl⟩ cq_29 cc_4 (c_L_greatestSum hG zm32) rfl (Nat.le_trans (jcI (jcI (jcR jcN))) (Nat.le_of_ble_eq_true rfl)) ?_
      refine J.iadd d_L_add_212 ?_
      obtain ⟨m33, hm33, g, h⟩ := jst_some h
      refine J.is hG d_L_add_213 g hm33 ?_
      refine J.nop (pc' := 214) rfl ?_
      refine J.aload_n 1 d_L_add_214 rfl rfl ?_
      refine J.getF (n := 42) hG d_L_add_215 fl_L_48 ck_29_12 rfl ?_
      refine J.iload_n 2 d_L_add_218 rfl rfl ?_
      refine J.dup2 d_L_add_219 rfl (jr_cat _ _) ?_
      obtain ⟨x34, ex34, g, h⟩ := jld_some h
      refine J.il hG d_L_add_220 g ex34 ?_
      refine J.iload 0 d_L_add_221 rfl ?_
      obtain ⟨x35, m36, zm36, h⟩ := jbd_some h
      refine J.cSi Y_C_bit (As := [.int (m2 29 15)]) (rest := [.int x34, .int v1, jr G 42]) d_L_add_223 mi_C_bit ms_C_bit lk_L_72 ⟨rfl, rfl, Nat.le_of_ble_eq_true rfl⟩ (c_C_bit hG zm36) rfl (Nat.le_trans (jcI (jcI (jcR jcN))) (Nat.le_of_ble_eq_true rfl)) ?_
      refine J.ior d_L_add_226 ?_
      refine J.nop (pc' := 227) rfl ?_
      obtain ⟨m37, hm37, g, h⟩ := jst_some h
      refine J.is hG d_L_add_227 g hm37 ?_
      refine J.iconst (v := (0 : Int32)) d_L_add_228 ki_0 ?_
      refine J.istore (lv := [(9, .int (0 : Int32)), (8, .int (m2 29 15)), (0, jr G 29), (1, .int v1), (2, .int v2), (3, .int v3), (4, .int v4), (5, .int v5), (6, .int v6), (7, .int v7)]) d_L_add_229 (by decide) rfl ?_
      refine J.sub (ls' := [(0, jr G 29), (4, .int v4), (8, .int (m2 29 15)), (9, .int (0 : Int32))]) [2, 6, 1, 0] rfl ?_
      refine jlp_L_add_231 hG v4 (m2 29 15) _ ?_ _ (0 : Int32) m37 _ h
      intro m44 r h
      refine J.aload_n 0 d_L_add_269 rfl rfl ?_
      refine J.dup d_L_add_270 (jr_cat _ _) ?_
      refine J.getI hG d_L_add_271 fl_L_65 ck_29_16 ?_
      refine J.iload 1 d_L_add_274 rfl ?_
      obtain ⟨x45, m46, zm46, h⟩ := jbd_some h
      refine J.cSi Y_C_bit (As := [.int (m2 29 15)]) (rest := [.int (m44 29 16), jr G 29]) d_L_add_276 mi_C_bit ms_C_bit lk_L_72 ⟨rfl, rfl, Nat.le_of_ble_eq_true rfl⟩ (c_C_bit hG zm46) rfl (Nat.le_trans (jcI (jcR jcN)) (Nat.le_of_ble_eq_true rfl)) ?_
      refine J.ior d_L_add_279 ?_
      obtain ⟨m47, hm47, h⟩ := jpu_some h
      refine J.putI hG d_L_add_280 fl_L_65 fp_4_16 ck_29_16 hm47 ?_
      refine J.aload_n 0 d_L_add_283 rfl rfl ?_
      refine J.nop (pc' := 284) rfl ?_
      refine J.dup d_L_add_284 (jr_cat _ _) ?_
      refine J.getI hG d_L_add_285 fl_L_57 ck_29_15 ?_
      refine J.iconst (v := (1 : Int32)) d_L_add_288 ki_1 ?_
      refine J.iadd d_L_add_289 ?_
      obtain ⟨m48, hm48, h⟩ := jpu_some h
      refine J.putI hG d_L_add_290 fl_L_57 fp_4_15 ck_29_15 hm48 ?_
      refine J.iload 1 d_L_add_293 rfl ?_
      cases h
      exact J.iret d_L_add_295 rfl (vp_nar_int _) rfl
    · rw [if_pos c] at h
      refine J.iconst (v := (-1 : Int32)) d_L_add_16 ki_m1 ?_
      refine J.nop (pc' := 17) rfl ?_
      cases h
      exact J.iret d_L_add_17 rfl (vp_nar_int _) rfl

def f_L_isLetter (v1 : Int32) (m : jMem) : Option (Int32 × jMem) :=
  if v1 < 0 then
    some ((0 : Int32), m)
  else
    if (m 29 15) ≤ v1 then
      some ((0 : Int32), m)
    else
      some ((1 : Int32), m)
theorem c_L_isLetter {G : jG} (hG : jFul G) {v1 : Int32} {m : jMem} {r : (Int32 × jMem)} (h : f_L_isLetter v1 m = some r) : jCt G Y_L_isLetter [jr G 29, .int v1] m (jri r) := by
  refine jCt.ov (ls := [(0, jr G 29), (1, .int v1)]) mi_L_isLetter (jAvR (jAvI jAvN)) (Nat.le_of_ble_eq_true rfl) ?_ ⟨rfl, rfl⟩
  unfold f_L_isLetter at h
  refine J.iload_n 1 d_L_isLetter_0 rfl rfl ?_
  refine J.if_lt 16 d_L_isLetter_1 rfl (fun c => ?_) (fun c => ?_)
  · rw [if_pos c] at h
    refine J.iconst (v := (0 : Int32)) d_L_isLetter_16 ki_0 ?_
    cases h
    exact J.iret d_L_isLetter_17 rfl rfl rfl
  · rw [if_neg c] at h
    refine J.iload_n 1 d_L_isLetter_4 rfl rfl ?_
    refine J.aload_n 0 d_L_isLetter_5 rfl rfl ?_
    refine J.getI hG d_L_isLetter_6 fl_L_57 ck_29_15 ?_
    refine J.icmp_ge 16 d_L_isLetter_9 rfl (fun c => ?_) (fun c => ?_)
    · rw [if_pos c] at h
      refine J.iconst (v := (0 : Int32)) d_L_isLetter_16 ki_0 ?_
      cases h
      exact J.iret d_L_isLetter_17 rfl rfl rfl
    · rw [if_neg c] at h
      refine J.iconst (v := (1 : Int32)) d_L_isLetter_12 ki_1 ?_
      refine J.goto 17 d_L_isLetter_13 rfl ?_
      cases h
      exact J.iret d_L_isLetter_17 rfl rfl rfl

def f_L_areTwo (v1 : Int32) (v2 : Int32) (m : jMem) : Option (Int32 × jMem) :=
  jbd (f_L_isLetter v1 m) fun x1 m2 =>
  if x1 = 0 then
    some ((0 : Int32), m2)
  else
    jbd (f_L_isLetter v2 m2) fun x3 m4 =>
    if x3 = 0 then
      some ((0 : Int32), m4)
    else
      if v1 = v2 then
        some ((0 : Int32), m4)
      else
        some ((1 : Int32), m4)
theorem c_L_areTwo {G : jG} (hG : jFul G) {v1 : Int32} {v2 : Int32} {m : jMem} {r : (Int32 × jMem)} (h : f_L_areTwo v1 v2 m = some r) : jCt G Y_L_areTwo [jr G 29, .int v1, .int v2] m (jri r) := by
  refine jCt.ov (ls := [(0, jr G 29), (1, .int v1), (2, .int v2)]) mi_L_areTwo (jAvR (jAvI (jAvI jAvN))) (Nat.le_of_ble_eq_true rfl) ?_ ⟨rfl, rfl⟩
  unfold f_L_areTwo at h
  refine J.aload_n 0 d_L_areTwo_0 rfl rfl ?_
  refine J.iload_n 1 d_L_areTwo_1 rfl rfl ?_
  obtain ⟨x1, m2, zm2, h⟩ := jbd_some h
  refine J.cVi Y_L_isLetter (As := [.int v1]) (rest := []) hG d_L_areTwo_2 mi_L_isLetter mv_L_isLetter lk_L_61 ⟨rfl, rfl, Nat.le_of_ble_eq_true rfl⟩ cq_29 cc_4 (c_L_isLetter hG zm2) rfl (Nat.le_trans jcN (Nat.le_of_ble_eq_true rfl)) ?_
  refine J.if_eq 25 d_L_areTwo_5 rfl (fun c => ?_) (fun c => ?_)
  · rw [if_pos c] at h
    refine J.iconst (v := (0 : Int32)) d_L_areTwo_25 ki_0 ?_
    cases h
    exact J.iret d_L_areTwo_26 rfl rfl rfl
  · rw [if_neg c] at h
    refine J.aload_n 0 d_L_areTwo_8 rfl rfl ?_
    refine J.iload_n 2 d_L_areTwo_9 rfl rfl ?_
    obtain ⟨x3, m4, zm4, h⟩ := jbd_some h
    refine J.cVi Y_L_isLetter (As := [.int v2]) (rest := []) hG d_L_areTwo_10 mi_L_isLetter mv_L_isLetter lk_L_61 ⟨rfl, rfl, Nat.le_of_ble_eq_true rfl⟩ cq_29 cc_4 (c_L_isLetter hG zm4) rfl (Nat.le_trans jcN (Nat.le_of_ble_eq_true rfl)) ?_
    refine J.if_eq 25 d_L_areTwo_13 rfl (fun c => ?_) (fun c => ?_)
    · rw [if_pos c] at h
      refine J.iconst (v := (0 : Int32)) d_L_areTwo_25 ki_0 ?_
      cases h
      exact J.iret d_L_areTwo_26 rfl rfl rfl
    · rw [if_neg c] at h
      refine J.nop (pc' := 16) rfl ?_
      refine J.iload_n 1 d_L_areTwo_16 rfl rfl ?_
      refine J.iload_n 2 d_L_areTwo_17 rfl rfl ?_
      refine J.icmp_eq 25 d_L_areTwo_18 rfl (fun c => ?_) (fun c => ?_)
      · rw [if_pos c] at h
        refine J.iconst (v := (0 : Int32)) d_L_areTwo_25 ki_0 ?_
        cases h
        exact J.iret d_L_areTwo_26 rfl rfl rfl
      · rw [if_neg c] at h
        refine J.iconst (v := (1 : Int32)) d_L_areTwo_21 ki_1 ?_
        refine J.goto 26 d_L_areTwo_22 rfl ?_
        cases h
        exact J.iret d_L_areTwo_26 rfl rfl rfl

def lp_L_firstThatKnew_2 (v1 : Int32) (v2 : Int32) (k31 : Int32 → jMem → Option (Int32 × jMem)) (k39 : jMem → Option (Int32 × jMem)) : Nat → Int32 → jMem → Option (Int32 × jMem)
  | 0, _, _ => none
  | n + 1, v3, m =>
    if (m 29 15) ≤ v3 then
      k39 m
    else
      jbd (f_C_isIn v2 v3 m) fun x1 m2 =>
      if x1 = 0 then
        lp_L_firstThatKnew_2 v1 v2 k31 k39 n (v3 + (1 : Int32)) m2
      else
        jld 1 m2 36 v3 fun x3 =>
        jbd (f_C_isIn x3 v1 m2) fun x4 m5 =>
        if x4 = 0 then
          lp_L_firstThatKnew_2 v1 v2 k31 k39 n (v3 + (1 : Int32)) m5
        else
          k31 v3 m5
def f_L_firstThatKnew (v1 : Int32) (v2 : Int32) (m : jMem) : Option (Int32 × jMem) :=
  lp_L_firstThatKnew_2 v1 v2 (fun w7 m6 =>
    some (w7, m6)) (fun m8 =>
    some ((-1 : Int32), m8)) 5000 (0 : Int32) m
theorem jlp_L_firstThatKnew_2 {G : jG} (hG : jFul G) (v1 : Int32) (v2 : Int32) (k31 : Int32 → jMem → Option (Int32 × jMem)) (k39 : jMem → Option (Int32 × jMem))
    (hk31 : ∀ (v3 : Int32) (m : jMem) (r : (Int32 × jMem)), k31 v3 m = some r → J G Y_L_firstThatKnew 31 [(3, .int v3)] [] m (jri r))
    (hk39 : ∀ (m : jMem) (r : (Int32 × jMem)), k39 m = some r → J G Y_L_firstThatKnew 39 [] [] m (jri r)) : ∀ (n : Nat) (v3 : Int32) (m : jMem) (r : (Int32 × jMem)), lp_L_firstThatKnew_2 v1 v2 k31 k39 n v3 m = some r → J G Y_L_firstThatKnew 2 [(0, jr G 29), (1, .int v1), (2, .int v2), (3, .int v3)] [] m (jri r) := by
  intro n
  induction n with
  | zero => intro v3 m r h; unfold lp_L_firstThatKnew_2 at h; cases h
  | succ n ih =>
    intro v3 m r h
    unfold lp_L_firstThatKnew_2 at h
    refine J.iload_n 3 d_L_firstThatKnew_2 rfl rfl ?_
    refine J.aload_n 0 d_L_firstThatKnew_3 rfl rfl ?_
    refine J.getI hG d_L_firstThatKnew_4 fl_L_57 ck_29_15 ?_
    refine J.icmp_ge 39 d_L_firstThatKnew_7 rfl (fun c => ?_) (fun c => ?_)
    · rw [if_pos c] at h
      exact J.sub (ls' := []) [] rfl (hk39  m _ h)
    · rw [if_neg c] at h
      refine J.iload_n 2 d_L_firstThatKnew_10 rfl rfl ?_
      refine J.iload_n 3 d_L_firstThatKnew_11 rfl rfl ?_
      obtain ⟨x1, m2, zm2, h⟩ := jbd_some h
      refine J.cSi Y_C_isIn (As := [.int v2, .int v3]) (rest := []) d_L_firstThatKnew_12 mi_C_isIn ms_C_isIn lk_L_68 ⟨rfl, rfl, Nat.le_of_ble_eq_true rfl⟩ (c_C_isIn hG zm2) rfl (Nat.le_trans jcN (Nat.le_of_ble_eq_true rfl)) ?_
      refine J.if_eq 33 d_L_firstThatKnew_15 rfl (fun c => ?_) (fun c => ?_)
      · rw [if_pos c] at h
        refine J.iinc 3 (v := (1 : Int32)) (lv := [(3, .int (v3 + (1 : Int32))), (0, jr G 29), (1, .int v1), (2, .int v2)]) d_L_firstThatKnew_33 rfl ki_1 (by decide) rfl ?_
        refine J.goto 2 d_L_firstThatKnew_36 rfl ?_
        exact J.sub (ls' := [(0, jr G 29), (1, .int v1), (2, .int v2), (3, .int (v3 + (1 : Int32)))]) [1, 2, 3, 0] rfl (ih (v3 + (1 : Int32)) m2 _ h)
      · rw [if_neg c] at h
        refine J.nop (pc' := 18) rfl ?_
        refine J.aload_n 0 d_L_firstThatKnew_18 rfl rfl ?_
        refine J.getF (n := 36) hG d_L_firstThatKnew_19 fl_L_30 ck_29_6 rfl ?_
        refine J.iload_n 3 d_L_firstThatKnew_22 rfl rfl ?_
        obtain ⟨x3, ex3, g, h⟩ := jld_some h
        refine J.il hG d_L_firstThatKnew_23 g ex3 ?_
        refine J.iload_n 1 d_L_firstThatKnew_24 rfl rfl ?_
        obtain ⟨x4, m5, zm5, h⟩ := jbd_some h
        refine J.cSi Y_C_isIn (As := [.int x3, .int v1]) (rest := []) d_L_firstThatKnew_25 mi_C_isIn ms_C_isIn lk_L_68 ⟨rfl, rfl, Nat.le_of_ble_eq_true rfl⟩ (c_C_isIn hG zm5) rfl (Nat.le_trans jcN (Nat.le_of_ble_eq_true rfl)) ?_
        refine J.if_eq 33 d_L_firstThatKnew_28 rfl (fun c => ?_) (fun c => ?_)
        · rw [if_pos c] at h
          refine J.iinc 3 (v := (1 : Int32)) (lv := [(3, .int (v3 + (1 : Int32))), (0, jr G 29), (1, .int v1), (2, .int v2)]) d_L_firstThatKnew_33 rfl ki_1 (by decide) rfl ?_
          refine J.goto 2 d_L_firstThatKnew_36 rfl ?_
          exact J.sub (ls' := [(0, jr G 29), (1, .int v1), (2, .int v2), (3, .int (v3 + (1 : Int32)))]) [1, 2, 3, 0] rfl (ih (v3 + (1 : Int32)) m5 _ h)
        · rw [if_neg c] at h
          exact J.sub (ls' := [(3, .int v3)]) [3] rfl (hk31 v3 m5 _ h)
theorem c_L_firstThatKnew {G : jG} (hG : jFul G) {v1 : Int32} {v2 : Int32} {m : jMem} {r : (Int32 × jMem)} (h : f_L_firstThatKnew v1 v2 m = some r) : jCt G Y_L_firstThatKnew [jr G 29, .int v1, .int v2] m (jri r) := by
  refine jCt.ov (ls := [(0, jr G 29), (1, .int v1), (2, .int v2)]) mi_L_firstThatKnew (jAvR (jAvI (jAvI jAvN))) (Nat.le_of_ble_eq_true rfl) ?_ ⟨rfl, rfl⟩
  unfold f_L_firstThatKnew at h
  refine J.iconst (v := (0 : Int32)) d_L_firstThatKnew_0 ki_0 ?_
  refine J.istore_n (lv := [(3, .int (0 : Int32)), (0, jr G 29), (1, .int v1), (2, .int v2)]) d_L_firstThatKnew_1 rfl (by decide) rfl ?_
  refine J.sub (ls' := [(0, jr G 29), (1, .int v1), (2, .int v2), (3, .int (0 : Int32))]) [1, 2, 3, 0] rfl ?_
  refine jlp_L_firstThatKnew_2 hG v1 v2 _ _ ?_ ?_ _ (0 : Int32) m _ h
  · intro w7 m6 r h
    refine J.iload_n 0 d_L_firstThatKnew_31 rfl rfl ?_
    cases h
    exact J.iret d_L_firstThatKnew_32 rfl (vp_nar_int _) rfl
  · intro m8 r h
    refine J.iconst (v := (-1 : Int32)) d_L_firstThatKnew_39 ki_m1 ?_
    cases h
    exact J.iret d_L_firstThatKnew_40 rfl (vp_nar_int _) rfl

def lp_L_ringsRound_15 (v2 : Int32) (k74 : Int32 → jMem → Option (Int32 × jMem)) (k83 : jMem → Option (Int32 × jMem)) : Nat → Int32 → Int32 → jMem → Option (Int32 × jMem)
  | 0, _, _, _ => none
  | n + 1, v3, v4, m =>
    if (30 : Int32) ≤ v4 then
      k83 m
    else
      jld 1 m 44 (v4 - (1 : Int32)) fun x4 =>
      jbd (f_L_allOf x4 36 m) fun x5 m6 =>
      jst 1 m6 44 v4 (x5 &&& (v3 ^^^ (-1 : Int32))) fun m7 =>
      jld 1 m7 44 v4 fun x8 =>
      jld 1 m7 44 v4 fun x9 =>
      jbd (f_C_isIn x9 v2 m7) fun x10 m11 =>
      if x10 = 0 then
        lp_L_ringsRound_15 v2 k74 k83 n (v3 ||| x8) (v4 + (1 : Int32)) m11
      else
        k74 v4 m11
def f_L_ringsRound (v1 : Int32) (v2 : Int32) (m : jMem) : Option (Int32 × jMem) :=
  jbd (f_C_bit v1 m) fun x1 m2 =>
  jst 1 m2 44 (0 : Int32) x1 fun m3 =>
  lp_L_ringsRound_15 v2 (fun w13 m12 =>
    some (w13, m12)) (fun m14 =>
    some ((-1 : Int32), m14)) 5000 x1 (1 : Int32) m3
theorem jlp_L_ringsRound_15 {G : jG} (hG : jFul G) (v2 : Int32) (k74 : Int32 → jMem → Option (Int32 × jMem)) (k83 : jMem → Option (Int32 × jMem))
    (hk74 : ∀ (v4 : Int32) (m : jMem) (r : (Int32 × jMem)), k74 v4 m = some r → J G Y_L_ringsRound 74 [(4, .int v4)] [] m (jri r))
    (hk83 : ∀ (m : jMem) (r : (Int32 × jMem)), k83 m = some r → J G Y_L_ringsRound 83 [] [] m (jri r)) : ∀ (n : Nat) (v3 : Int32) (v4 : Int32) (m : jMem) (r : (Int32 × jMem)), lp_L_ringsRound_15 v2 k74 k83 n v3 v4 m = some r → J G Y_L_ringsRound 15 [(0, jr G 29), (2, .int v2), (3, .int v3), (4, .int v4)] [] m (jri r) := by
  intro n
  induction n with
  | zero => intro v3 v4 m r h; unfold lp_L_ringsRound_15 at h; cases h
  | succ n ih =>
    intro v3 v4 m r h
    unfold lp_L_ringsRound_15 at h
    refine J.iload 3 d_L_ringsRound_15 rfl ?_
    refine J.bipush (v := (30 : Int32)) d_L_ringsRound_17 kb_30 ?_
    refine J.icmp_ge 83 d_L_ringsRound_19 rfl (fun c => ?_) (fun c => ?_)
    · rw [if_pos c] at h
      exact J.sub (ls' := []) [] rfl (hk83  m _ h)
    · rw [if_neg c] at h
      refine J.aload_n 0 d_L_ringsRound_22 rfl rfl ?_
      refine J.getF (n := 44) hG d_L_ringsRound_23 fl_L_54 ck_29_14 rfl ?_
      refine J.iload 3 d_L_ringsRound_26 rfl ?_
      refine J.aload_n 0 d_L_ringsRound_28 rfl rfl ?_
      refine J.aload_n 0 d_L_ringsRound_29 rfl rfl ?_
      refine J.nop (pc' := 30) rfl ?_
      refine J.getF (n := 44) hG d_L_ringsRound_30 fl_L_54 ck_29_14 rfl ?_
      refine J.iload 3 d_L_ringsRound_33 rfl ?_
      refine J.iconst (v := (1 : Int32)) d_L_ringsRound_35 ki_1 ?_
      refine J.isub d_L_ringsRound_36 ?_
      obtain ⟨x4, ex4, g, h⟩ := jld_some h
      refine J.il hG d_L_ringsRound_37 g ex4 ?_
      refine J.aload_n 0 d_L_ringsRound_38 rfl rfl ?_
      refine J.getF (n := 36) hG d_L_ringsRound_39 fl_L_30 ck_29_6 rfl ?_
      obtain ⟨x5, m6, zm6, h⟩ := jbd_some h
      refine J.cVi Y_L_allOf (As := [.int x4, jr G 36]) (rest := [.int v4, jr G 44]) hG d_L_ringsRound_42 mi_L_allOf mv_L_allOf lk_L_79 ⟨rfl, rfl, Nat.le_of_ble_eq_true rfl⟩ cq_29 cc_4 (c_L_allOf hG zm6) rfl (Nat.le_trans (jcI (jcR jcN)) (Nat.le_of_ble_eq_true rfl)) ?_
      refine J.nop (pc' := 45) rfl ?_
      refine J.iload_n 2 d_L_ringsRound_45 rfl rfl ?_
      refine J.iconst (v := (-1 : Int32)) d_L_ringsRound_46 ki_m1 ?_
      refine J.ixor d_L_ringsRound_47 ?_
      refine J.iand d_L_ringsRound_48 ?_
      obtain ⟨m7, hm7, g, h⟩ := jst_some h
      refine J.is hG d_L_ringsRound_49 g hm7 ?_
      refine J.iload_n 2 d_L_ringsRound_50 rfl rfl ?_
      refine J.aload_n 0 d_L_ringsRound_51 rfl rfl ?_
      refine J.getF (n := 44) hG d_L_ringsRound_52 fl_L_54 ck_29_14 rfl ?_
      refine J.nop (pc' := 55) rfl ?_
      refine J.iload 3 d_L_ringsRound_55 rfl ?_
      obtain ⟨x8, ex8, g, h⟩ := jld_some h
      refine J.il hG d_L_ringsRound_57 g ex8 ?_
      refine J.ior d_L_ringsRound_58 ?_
      refine J.istore_n (lv := [(3, .int (v3 ||| x8)), (0, jr G 29), (2, .int v2), (4, .int v4)]) d_L_ringsRound_59 rfl (by decide) rfl ?_
      refine J.aload_n 1 d_L_ringsRound_60 rfl rfl ?_
      refine J.getF (n := 44) hG d_L_ringsRound_61 fl_L_54 ck_29_14 rfl ?_
      refine J.iload 3 d_L_ringsRound_64 rfl ?_
      obtain ⟨x9, ex9, g, h⟩ := jld_some h
      refine J.il hG d_L_ringsRound_66 g ex9 ?_
      refine J.nop (pc' := 67) rfl ?_
      refine J.iload_n 2 d_L_ringsRound_67 rfl rfl ?_
      obtain ⟨x10, m11, zm11, h⟩ := jbd_some h
      refine J.cSi Y_C_isIn (As := [.int x9, .int v2]) (rest := []) d_L_ringsRound_68 mi_C_isIn ms_C_isIn lk_L_68 ⟨rfl, rfl, Nat.le_of_ble_eq_true rfl⟩ (c_C_isIn hG zm11) rfl (Nat.le_trans jcN (Nat.le_of_ble_eq_true rfl)) ?_
      refine J.if_eq 77 d_L_ringsRound_71 rfl (fun c => ?_) (fun c => ?_)
      · rw [if_pos c] at h
        refine J.iinc 3 (v := (1 : Int32)) (lv := [(4, .int (v4 + (1 : Int32))), (3, .int (v3 ||| x8)), (0, jr G 29), (2, .int v2)]) d_L_ringsRound_77 rfl ki_1 (by decide) rfl ?_
        refine J.goto 15 d_L_ringsRound_80 rfl ?_
        exact J.sub (ls' := [(0, jr G 29), (2, .int v2), (3, .int (v3 ||| x8)), (4, .int (v4 + (1 : Int32)))]) [2, 3, 1, 0] rfl (ih (v3 ||| x8) (v4 + (1 : Int32)) m11 _ h)
      · rw [if_neg c] at h
        exact J.sub (ls' := [(4, .int v4)]) [3] rfl (hk74 v4 m11 _ h)
theorem c_L_ringsRound {G : jG} (hG : jFul G) {v1 : Int32} {v2 : Int32} {m : jMem} {r : (Int32 × jMem)} (h : f_L_ringsRound v1 v2 m = some r) : jCt G Y_L_ringsRound [jr G 29, .int v1, .int v2] m (jri r) := by
  refine jCt.ov (ls := [(0, jr G 29), (1, .int v1), (2, .int v2)]) mi_L_ringsRound (jAvR (jAvI (jAvI jAvN))) (Nat.le_of_ble_eq_true rfl) ?_ ⟨rfl, rfl⟩
  unfold f_L_ringsRound at h
  refine J.iload_n 1 d_L_ringsRound_0 rfl rfl ?_
  obtain ⟨x1, m2, zm2, h⟩ := jbd_some h
  refine J.cSi Y_C_bit (As := [.int v1]) (rest := []) d_L_ringsRound_1 mi_C_bit ms_C_bit lk_L_72 ⟨rfl, rfl, Nat.le_of_ble_eq_true rfl⟩ (c_C_bit hG zm2) rfl (Nat.le_trans jcN (Nat.le_of_ble_eq_true rfl)) ?_
  refine J.istore_n (lv := [(3, .int x1), (0, jr G 29), (1, .int v1), (2, .int v2)]) d_L_ringsRound_4 rfl (by decide) rfl ?_
  refine J.aload_n 1 d_L_ringsRound_5 rfl rfl ?_
  refine J.getF (n := 44) hG d_L_ringsRound_6 fl_L_54 ck_29_14 rfl ?_
  refine J.iconst (v := (0 : Int32)) d_L_ringsRound_9 ki_0 ?_
  refine J.iload_n 0 d_L_ringsRound_10 rfl rfl ?_
  obtain ⟨m3, hm3, g, h⟩ := jst_some h
  refine J.is hG d_L_ringsRound_11 g hm3 ?_
  refine J.nop (pc' := 12) rfl ?_
  refine J.iconst (v := (1 : Int32)) d_L_ringsRound_12 ki_1 ?_
  refine J.istore (lv := [(4, .int (1 : Int32)), (3, .int x1), (0, jr G 29), (1, .int v1), (2, .int v2)]) d_L_ringsRound_13 (by decide) rfl ?_
  refine J.sub (ls' := [(0, jr G 29), (2, .int v2), (3, .int x1), (4, .int (1 : Int32))]) [2, 4, 1, 0] rfl ?_
  refine jlp_L_ringsRound_15 hG v2 _ _ ?_ ?_ _ x1 (1 : Int32) m3 _ h
  · intro w13 m12 r h
    refine J.iload 0 d_L_ringsRound_74 rfl ?_
    cases h
    exact J.iret d_L_ringsRound_76 rfl (vp_nar_int _) rfl
  · intro m14 r h
    refine J.iconst (v := (-1 : Int32)) d_L_ringsRound_83 ki_m1 ?_
    cases h
    exact J.iret d_L_ringsRound_84 rfl (vp_nar_int _) rfl

def lp_L_onShortestWay_28 (v3 : Int32) (v4 : Int32) (k64 : Int32 → jMem → Option (Int32 × jMem)) : Nat → Int32 → Int32 → jMem → Option (Int32 × jMem)
  | 0, _, _, _ => none
  | n + 1, v5, v6, m =>
    if v3 < v6 then
      k64 v5 m
    else
      if v5 = (-1 : Int32) then
        k64 v5 m
      else
        jld 1 m 44 (v4 - v6) fun x3 =>
        jbd (f_L_firstThatKnew v5 x3 m) fun x4 m5 =>
        lp_L_onShortestWay_28 v3 v4 k64 n x4 (v6 + (1 : Int32)) m5
def f_L_onShortestWay (v1 : Int32) (v2 : Int32) (v3 : Int32) (m : jMem) : Option (Int32 × jMem) :=
  jbd (f_L_ringsRound v2 v1 m) fun x1 m2 =>
  if x1 = (-1 : Int32) then
    some ((-1 : Int32), m2)
  else
    if v3 ≤ x1 then
      lp_L_onShortestWay_28 v3 x1 (fun w7 m6 =>
        some (w7, m6)) 5000 v1 (1 : Int32) m2
    else
      some ((-1 : Int32), m2)
theorem jlp_L_onShortestWay_28 {G : jG} (hG : jFul G) (v3 : Int32) (v4 : Int32) (k64 : Int32 → jMem → Option (Int32 × jMem))
    (hk64 : ∀ (v5 : Int32) (m : jMem) (r : (Int32 × jMem)), k64 v5 m = some r → J G Y_L_onShortestWay 64 [(5, .int v5)] [] m (jri r)) : ∀ (n : Nat) (v5 : Int32) (v6 : Int32) (m : jMem) (r : (Int32 × jMem)), lp_L_onShortestWay_28 v3 v4 k64 n v5 v6 m = some r → J G Y_L_onShortestWay 28 [(0, jr G 29), (3, .int v3), (4, .int v4), (5, .int v5), (6, .int v6)] [] m (jri r) := by
  intro n
  induction n with
  | zero => intro v5 v6 m r h; unfold lp_L_onShortestWay_28 at h; cases h
  | succ n ih =>
    intro v5 v6 m r h
    unfold lp_L_onShortestWay_28 at h
    refine J.iload 4 d_L_onShortestWay_28 rfl ?_
    refine J.iload_n 1 d_L_onShortestWay_30 rfl rfl ?_
    refine J.icmp_gt 64 d_L_onShortestWay_31 rfl (fun c => ?_) (fun c => ?_)
    · rw [if_pos c] at h
      exact J.sub (ls' := [(5, .int v5)]) [3] rfl (hk64 v5 m _ h)
    · rw [if_neg c] at h
      refine J.iload 3 d_L_onShortestWay_34 rfl ?_
      refine J.iconst (v := (-1 : Int32)) d_L_onShortestWay_36 ki_m1 ?_
      refine J.icmp_eq 64 d_L_onShortestWay_37 rfl (fun c => ?_) (fun c => ?_)
      · rw [if_pos c] at h
        exact J.sub (ls' := [(5, .int v5)]) [3] rfl (hk64 v5 m _ h)
      · rw [if_neg c] at h
        refine J.aload_n 0 d_L_onShortestWay_40 rfl rfl ?_
        refine J.iload 3 d_L_onShortestWay_41 rfl ?_
        refine J.nop (pc' := 43) rfl ?_
        refine J.aload_n 0 d_L_onShortestWay_43 rfl rfl ?_
        refine J.getF (n := 44) hG d_L_onShortestWay_44 fl_L_54 ck_29_14 rfl ?_
        refine J.iload 2 d_L_onShortestWay_47 rfl ?_
        refine J.iload 4 d_L_onShortestWay_49 rfl ?_
        refine J.isub d_L_onShortestWay_51 ?_
        obtain ⟨x3, ex3, g, h⟩ := jld_some h
        refine J.il hG d_L_onShortestWay_52 g ex3 ?_
        obtain ⟨x4, m5, zm5, h⟩ := jbd_some h
        refine J.cVi Y_L_firstThatKnew (As := [.int v5, .int x3]) (rest := []) hG d_L_onShortestWay_53 mi_L_firstThatKnew mv_L_firstThatKnew lk_L_110 ⟨rfl, rfl, Nat.le_of_ble_eq_true rfl⟩ cq_29 cc_4 (c_L_firstThatKnew hG zm5) rfl (Nat.le_trans jcN (Nat.le_of_ble_eq_true rfl)) ?_
        refine J.istore (lv := [(5, .int x4), (0, jr G 29), (3, .int v3), (4, .int v4), (6, .int v6)]) d_L_onShortestWay_56 (by decide) rfl ?_
        refine J.nop (pc' := 58) rfl ?_
        refine J.iinc 4 (v := (1 : Int32)) (lv := [(6, .int (v6 + (1 : Int32))), (5, .int x4), (0, jr G 29), (3, .int v3), (4, .int v4)]) d_L_onShortestWay_58 rfl ki_1 (by decide) rfl ?_
        refine J.goto 28 d_L_onShortestWay_61 rfl ?_
        exact J.sub (ls' := [(0, jr G 29), (3, .int v3), (4, .int v4), (5, .int x4), (6, .int (v6 + (1 : Int32)))]) [2, 3, 4, 1, 0] rfl (ih x4 (v6 + (1 : Int32)) m5 _ h)
theorem c_L_onShortestWay {G : jG} (hG : jFul G) {v1 : Int32} {v2 : Int32} {v3 : Int32} {m : jMem} {r : (Int32 × jMem)} (h : f_L_onShortestWay v1 v2 v3 m = some r) : jCt G Y_L_onShortestWay [jr G 29, .int v1, .int v2, .int v3] m (jri r) := by
  refine jCt.ov (ls := [(0, jr G 29), (1, .int v1), (2, .int v2), (3, .int v3)]) mi_L_onShortestWay (jAvR (jAvI (jAvI (jAvI jAvN)))) (Nat.le_of_ble_eq_true rfl) ?_ ⟨rfl, rfl⟩
  unfold f_L_onShortestWay at h
  refine J.aload_n 0 d_L_onShortestWay_0 rfl rfl ?_
  refine J.iload_n 2 d_L_onShortestWay_1 rfl rfl ?_
  refine J.iload_n 1 d_L_onShortestWay_2 rfl rfl ?_
  obtain ⟨x1, m2, zm2, h⟩ := jbd_some h
  refine J.cVi Y_L_ringsRound (As := [.int v2, .int v1]) (rest := []) hG d_L_onShortestWay_3 mi_L_ringsRound mv_L_ringsRound lk_L_107 ⟨rfl, rfl, Nat.le_of_ble_eq_true rfl⟩ cq_29 cc_4 (c_L_ringsRound hG zm2) rfl (Nat.le_trans jcN (Nat.le_of_ble_eq_true rfl)) ?_
  refine J.istore (lv := [(4, .int x1), (0, jr G 29), (1, .int v1), (2, .int v2), (3, .int v3)]) d_L_onShortestWay_6 (by decide) rfl ?_
  refine J.iload 0 d_L_onShortestWay_8 rfl ?_
  refine J.iconst (v := (-1 : Int32)) d_L_onShortestWay_10 ki_m1 ?_
  refine J.icmp_eq 20 d_L_onShortestWay_11 rfl (fun c => ?_) (fun c => ?_)
  · rw [if_pos c] at h
    refine J.iconst (v := (-1 : Int32)) d_L_onShortestWay_20 ki_m1 ?_
    cases h
    exact J.iret d_L_onShortestWay_21 rfl (vp_nar_int _) rfl
  · rw [if_neg c] at h
    refine J.nop (pc' := 14) rfl ?_
    refine J.iload_n 4 d_L_onShortestWay_14 rfl rfl ?_
    refine J.iload 0 d_L_onShortestWay_15 rfl ?_
    refine J.icmp_le 22 d_L_onShortestWay_17 rfl (fun c => ?_) (fun c => ?_)
    · rw [if_pos c] at h
      refine J.iload_n 2 d_L_onShortestWay_22 rfl rfl ?_
      refine J.istore (lv := [(5, .int v1), (4, .int x1), (0, jr G 29), (1, .int v1), (2, .int v2), (3, .int v3)]) d_L_onShortestWay_23 (by decide) rfl ?_
      refine J.iconst (v := (1 : Int32)) d_L_onShortestWay_25 ki_1 ?_
      refine J.istore (lv := [(6, .int (1 : Int32)), (5, .int v1), (4, .int x1), (0, jr G 29), (1, .int v1), (2, .int v2), (3, .int v3)]) d_L_onShortestWay_26 (by decide) rfl ?_
      refine J.sub (ls' := [(0, jr G 29), (3, .int v3), (4, .int x1), (5, .int v1), (6, .int (1 : Int32))]) [3, 6, 2, 1, 0] rfl ?_
      refine jlp_L_onShortestWay_28 hG v3 x1 _ ?_ _ v1 (1 : Int32) m2 _ h
      intro w7 m6 r h
      refine J.iload 0 d_L_onShortestWay_64 rfl ?_
      cases h
      exact J.iret d_L_onShortestWay_66 rfl (vp_nar_int _) rfl
    · rw [if_neg c] at h
      refine J.iconst (v := (-1 : Int32)) d_L_onShortestWay_20 ki_m1 ?_
      cases h
      exact J.iret d_L_onShortestWay_21 rfl (vp_nar_int _) rfl

def f_L_numberFor (v1 : Int32) (v2 : Int32) (m : jMem) : Option (Int32 × jMem) :=
  jld 1 m 37 v1 fun x1 =>
  jbd (f_C_bit v1 m) fun x2 m3 =>
  jld 1 m3 42 v2 fun x4 =>
  jbd (f_JI_bitCount ((x1 ||| x2) &&& x4) m3) fun x5 m6 =>
  some (x5, m6)
theorem c_L_numberFor {G : jG} (hG : jFul G) {v1 : Int32} {v2 : Int32} {m : jMem} {r : (Int32 × jMem)} (h : f_L_numberFor v1 v2 m = some r) : jCt G Y_L_numberFor [jr G 29, .int v1, .int v2] m (jri r) := by
  refine jCt.ov (ls := [(0, jr G 29), (1, .int v1), (2, .int v2)]) mi_L_numberFor (jAvR (jAvI (jAvI jAvN))) (Nat.le_of_ble_eq_true rfl) ?_ ⟨rfl, rfl⟩
  unfold f_L_numberFor at h
  refine J.aload_n 0 d_L_numberFor_0 rfl rfl ?_
  refine J.getF (n := 37) hG d_L_numberFor_1 fl_L_33 ck_29_7 rfl ?_
  refine J.iload_n 1 d_L_numberFor_4 rfl rfl ?_
  obtain ⟨x1, ex1, g, h⟩ := jld_some h
  refine J.il hG d_L_numberFor_5 g ex1 ?_
  refine J.iload_n 1 d_L_numberFor_6 rfl rfl ?_
  obtain ⟨x2, m3, zm3, h⟩ := jbd_some h
  refine J.cSi Y_C_bit (As := [.int v1]) (rest := [.int x1]) d_L_numberFor_7 mi_C_bit ms_C_bit lk_L_72 ⟨rfl, rfl, Nat.le_of_ble_eq_true rfl⟩ (c_C_bit hG zm3) rfl (Nat.le_trans (jcI jcN) (Nat.le_of_ble_eq_true rfl)) ?_
  refine J.ior d_L_numberFor_10 ?_
  refine J.aload_n 0 d_L_numberFor_11 rfl rfl ?_
  refine J.nop (pc' := 12) rfl ?_
  refine J.getF (n := 42) hG d_L_numberFor_12 fl_L_48 ck_29_12 rfl ?_
  refine J.iload_n 2 d_L_numberFor_15 rfl rfl ?_
  obtain ⟨x4, ex4, g, h⟩ := jld_some h
  refine J.il hG d_L_numberFor_16 g ex4 ?_
  refine J.iand d_L_numberFor_17 ?_
  obtain ⟨x5, m6, zm6, h⟩ := jbd_some h
  refine J.cSi Y_JI_bitCount (As := [.int ((x1 ||| x2) &&& x4)]) (rest := []) d_L_numberFor_18 mi_JI_bitCount ms_JI_bitCount lk_L_95 ⟨rfl, rfl, Nat.le_of_ble_eq_true rfl⟩ (c_JI_bitCount hG zm6) rfl (Nat.le_trans jcN (Nat.le_of_ble_eq_true rfl)) ?_
  cases h
  exact J.iret d_L_numberFor_21 rfl (vp_nar_int _) rfl

def lp_L_numberOfNumber_26 (v1 : Int32) (v2 : Int32) (v5 : Int32) (k62 : Int32 → jMem → Option (Int32 × jMem)) : Nat → Int32 → Int32 → jMem → Option (Int32 × jMem)
  | 0, _, _, _ => none
  | n + 1, v4, v6, m =>
    if v1 < v6 then
      k62 v4 m
    else
      jbd (f_C_isIn v5 v6 m) fun x5 m6 =>
      if x5 = 0 then
        lp_L_numberOfNumber_26 v1 v2 v5 k62 n v4 (v6 + (1 : Int32)) m6
      else
        jbd (f_L_numberFor v6 v2 m6) fun x7 m8 =>
        lp_L_numberOfNumber_26 v1 v2 v5 k62 n (jmax v4 x7) (v6 + (1 : Int32)) m8
def f_L_numberOfNumber (v1 : Int32) (v2 : Int32) (v3 : Int32) (m : jMem) : Option (Int32 × jMem) :=
  jld 1 m 37 v1 fun x1 =>
  jbd (f_C_bit v1 m) fun x2 m3 =>
  jld 1 m3 42 v3 fun x4 =>
  lp_L_numberOfNumber_26 v1 v2 ((x1 ||| x2) &&& x4) (fun w10 m9 =>
    some (w10, m9)) 5000 (0 : Int32) (0 : Int32) m3
theorem jlp_L_numberOfNumber_26 {G : jG} (hG : jFul G) (v1 : Int32) (v2 : Int32) (v5 : Int32) (k62 : Int32 → jMem → Option (Int32 × jMem))
    (hk62 : ∀ (v4 : Int32) (m : jMem) (r : (Int32 × jMem)), k62 v4 m = some r → J G Y_L_numberOfNumber 62 [(4, .int v4)] [] m (jri r)) : ∀ (n : Nat) (v4 : Int32) (v6 : Int32) (m : jMem) (r : (Int32 × jMem)), lp_L_numberOfNumber_26 v1 v2 v5 k62 n v4 v6 m = some r → J G Y_L_numberOfNumber 26 [(0, jr G 29), (1, .int v1), (2, .int v2), (4, .int v4), (5, .int v5), (6, .int v6)] [] m (jri r) := by
  intro n
  induction n with
  | zero => intro v4 v6 m r h; unfold lp_L_numberOfNumber_26 at h; cases h
  | succ n ih =>
    intro v4 v6 m r h
    unfold lp_L_numberOfNumber_26 at h
    refine J.iload 5 d_L_numberOfNumber_26 rfl ?_
    refine J.iload_n 1 d_L_numberOfNumber_28 rfl rfl ?_
    refine J.icmp_gt 62 d_L_numberOfNumber_29 rfl (fun c => ?_) (fun c => ?_)
    · rw [if_pos c] at h
      exact J.sub (ls' := [(4, .int v4)]) [3] rfl (hk62 v4 m _ h)
    · rw [if_neg c] at h
      refine J.iload 4 d_L_numberOfNumber_32 rfl ?_
      refine J.iload 5 d_L_numberOfNumber_34 rfl ?_
      obtain ⟨x5, m6, zm6, h⟩ := jbd_some h
      refine J.cSi Y_C_isIn (As := [.int v5, .int v6]) (rest := []) d_L_numberOfNumber_36 mi_C_isIn ms_C_isIn lk_L_68 ⟨rfl, rfl, Nat.le_of_ble_eq_true rfl⟩ (c_C_isIn hG zm6) rfl (Nat.le_trans jcN (Nat.le_of_ble_eq_true rfl)) ?_
      refine J.if_eq 56 d_L_numberOfNumber_39 rfl (fun c => ?_) (fun c => ?_)
      · rw [if_pos c] at h
        refine J.iinc 5 (v := (1 : Int32)) (lv := [(6, .int (v6 + (1 : Int32))), (0, jr G 29), (1, .int v1), (2, .int v2), (4, .int v4), (5, .int v5)]) d_L_numberOfNumber_56 rfl ki_1 (by decide) rfl ?_
        refine J.goto 26 d_L_numberOfNumber_59 rfl ?_
        exact J.sub (ls' := [(0, jr G 29), (1, .int v1), (2, .int v2), (4, .int v4), (5, .int v5), (6, .int (v6 + (1 : Int32)))]) [1, 2, 3, 4, 5, 0] rfl (ih v4 (v6 + (1 : Int32)) m6 _ h)
      · rw [if_neg c] at h
        refine J.iload 3 d_L_numberOfNumber_42 rfl ?_
        refine J.nop (pc' := 44) rfl ?_
        refine J.aload_n 0 d_L_numberOfNumber_44 rfl rfl ?_
        refine J.iload 5 d_L_numberOfNumber_45 rfl ?_
        refine J.iload_n 2 d_L_numberOfNumber_47 rfl rfl ?_
        obtain ⟨x7, m8, zm8, h⟩ := jbd_some h
        refine J.cVi Y_L_numberFor (As := [.int v6, .int v2]) (rest := [.int v4]) hG d_L_numberOfNumber_48 mi_L_numberFor mv_L_numberFor lk_L_100 ⟨rfl, rfl, Nat.le_of_ble_eq_true rfl⟩ cq_29 cc_4 (c_L_numberFor hG zm8) rfl (Nat.le_trans (jcI jcN) (Nat.le_of_ble_eq_true rfl)) ?_
        refine J.mx d_L_numberOfNumber_51 (jt_3 233 rfl rfl) (jt_3 69 rfl rfl) (jt_1 14 rfl rfl) (jt_3 70 rfl rfl) (Nat.le_trans jcN (Nat.le_of_ble_eq_true rfl)) ?_
        refine J.istore (lv := [(4, .int (jmax v4 x7)), (0, jr G 29), (1, .int v1), (2, .int v2), (5, .int v5), (6, .int v6)]) d_L_numberOfNumber_54 (by decide) rfl ?_
        refine J.iinc 5 (v := (1 : Int32)) (lv := [(6, .int (v6 + (1 : Int32))), (4, .int (jmax v4 x7)), (0, jr G 29), (1, .int v1), (2, .int v2), (5, .int v5)]) d_L_numberOfNumber_56 rfl ki_1 (by decide) rfl ?_
        refine J.goto 26 d_L_numberOfNumber_59 rfl ?_
        exact J.sub (ls' := [(0, jr G 29), (1, .int v1), (2, .int v2), (4, .int (jmax v4 x7)), (5, .int v5), (6, .int (v6 + (1 : Int32)))]) [2, 3, 4, 1, 5, 0] rfl (ih (jmax v4 x7) (v6 + (1 : Int32)) m8 _ h)
theorem c_L_numberOfNumber {G : jG} (hG : jFul G) {v1 : Int32} {v2 : Int32} {v3 : Int32} {m : jMem} {r : (Int32 × jMem)} (h : f_L_numberOfNumber v1 v2 v3 m = some r) : jCt G Y_L_numberOfNumber [jr G 29, .int v1, .int v2, .int v3] m (jri r) := by
  refine jCt.ov (ls := [(0, jr G 29), (1, .int v1), (2, .int v2), (3, .int v3)]) mi_L_numberOfNumber (jAvR (jAvI (jAvI (jAvI jAvN)))) (Nat.le_of_ble_eq_true rfl) ?_ ⟨rfl, rfl⟩
  unfold f_L_numberOfNumber at h
  refine J.iconst (v := (0 : Int32)) d_L_numberOfNumber_0 ki_0 ?_
  refine J.istore (lv := [(4, .int (0 : Int32)), (0, jr G 29), (1, .int v1), (2, .int v2), (3, .int v3)]) d_L_numberOfNumber_1 (by decide) rfl ?_
  refine J.aload_n 1 d_L_numberOfNumber_3 rfl rfl ?_
  refine J.getF (n := 37) hG d_L_numberOfNumber_4 fl_L_33 ck_29_7 rfl ?_
  refine J.iload_n 2 d_L_numberOfNumber_7 rfl rfl ?_
  obtain ⟨x1, ex1, g, h⟩ := jld_some h
  refine J.il hG d_L_numberOfNumber_8 g ex1 ?_
  refine J.iload_n 2 d_L_numberOfNumber_9 rfl rfl ?_
  obtain ⟨x2, m3, zm3, h⟩ := jbd_some h
  refine J.cSi Y_C_bit (As := [.int v1]) (rest := [.int x1]) d_L_numberOfNumber_10 mi_C_bit ms_C_bit lk_L_72 ⟨rfl, rfl, Nat.le_of_ble_eq_true rfl⟩ (c_C_bit hG zm3) rfl (Nat.le_trans (jcI jcN) (Nat.le_of_ble_eq_true rfl)) ?_
  refine J.nop (pc' := 13) rfl ?_
  refine J.ior d_L_numberOfNumber_13 ?_
  refine J.aload_n 1 d_L_numberOfNumber_14 rfl rfl ?_
  refine J.getF (n := 42) hG d_L_numberOfNumber_15 fl_L_48 ck_29_12 rfl ?_
  refine J.iload_n 4 d_L_numberOfNumber_18 rfl rfl ?_
  obtain ⟨x4, ex4, g, h⟩ := jld_some h
  refine J.il hG d_L_numberOfNumber_19 g ex4 ?_
  refine J.iand d_L_numberOfNumber_20 ?_
  refine J.istore (lv := [(5, .int ((x1 ||| x2) &&& x4)), (4, .int (0 : Int32)), (0, jr G 29), (1, .int v1), (2, .int v2), (3, .int v3)]) d_L_numberOfNumber_21 (by decide) rfl ?_
  refine J.iconst (v := (0 : Int32)) d_L_numberOfNumber_23 ki_0 ?_
  refine J.nop (pc' := 24) rfl ?_
  refine J.istore (lv := [(6, .int (0 : Int32)), (5, .int ((x1 ||| x2) &&& x4)), (4, .int (0 : Int32)), (0, jr G 29), (1, .int v1), (2, .int v2), (3, .int v3)]) d_L_numberOfNumber_24 (by decide) rfl ?_
  refine J.sub (ls' := [(0, jr G 29), (1, .int v1), (2, .int v2), (4, .int (0 : Int32)), (5, .int ((x1 ||| x2) &&& x4)), (6, .int (0 : Int32))]) [3, 4, 5, 2, 1, 0] rfl ?_
  refine jlp_L_numberOfNumber_26 hG v1 v2 ((x1 ||| x2) &&& x4) _ ?_ _ (0 : Int32) (0 : Int32) m3 _ h
  intro w10 m9 r h
  refine J.iload 0 d_L_numberOfNumber_62 rfl ?_
  cases h
  exact J.iret d_L_numberOfNumber_64 rfl (vp_nar_int _) rfl

def f_L_isTold (v1 : Int32) (v2 : Int32) (v3 : Int32) (m : jMem) : Option (Int32 × jMem) :=
  if v3 = (0 : Int32) then
    jld 1 m 38 v2 fun x12 =>
    jbd (f_C_isIn x12 v1 m) fun x13 m14 =>
    jgd (x13 = 0 ∨ x13 = 1) (some (x13, m14))
  else
    if v3 = (1 : Int32) then
      jld 1 m 41 v1 fun x10 =>
      jld 1 m 41 v2 fun x11 =>
      if x11 ≤ x10 then
        some ((0 : Int32), m)
      else
        some ((1 : Int32), m)
    else
      if v3 = (2 : Int32) then
        jld 1 m 30 v1 fun x4 =>
        jbd (f_L_numberFor v2 x4 m) fun x5 m6 =>
        jld 1 m6 30 v1 fun x7 =>
        jbd (f_L_numberFor v1 x7 m6) fun x8 m9 =>
        if x5 < x8 then
          some ((0 : Int32), m9)
        else
          some ((1 : Int32), m9)
      else
        jld 1 m 40 v2 fun x1 =>
        jbd (f_C_isIn x1 v1 m) fun x2 m3 =>
        jgd (x2 = 0 ∨ x2 = 1) (some (x2, m3))
theorem c_L_isTold {G : jG} (hG : jFul G) {v1 : Int32} {v2 : Int32} {v3 : Int32} {m : jMem} {r : (Int32 × jMem)} (h : f_L_isTold v1 v2 v3 m = some r) : jCt G Y_L_isTold [jr G 29, .int v1, .int v2, .int v3] m (jri r) := by
  refine jCt.ov (ls := [(0, jr G 29), (1, .int v1), (2, .int v2), (3, .int v3)]) mi_L_isTold (jAvR (jAvI (jAvI (jAvI jAvN)))) (Nat.le_of_ble_eq_true rfl) ?_ ⟨rfl, rfl⟩
  unfold f_L_isTold at h
  refine J.iload_n 3 d_L_isTold_0 rfl rfl ?_
  by_cases c0 : v3 = (0 : Int32)
  · rw [if_pos c0] at h
    refine J.tsIn 28 d_L_isTold_1 c0 (by decide) (by decide) rfl (by decide) ?_
    refine J.aload_n 0 d_L_isTold_28 rfl rfl ?_
    refine J.getF (n := 38) hG d_L_isTold_29 fl_L_36 ck_29_8 rfl ?_
    refine J.iload_n 2 d_L_isTold_32 rfl rfl ?_
    obtain ⟨x12, ex12, g, h⟩ := jld_some h
    refine J.il hG d_L_isTold_33 g ex12 ?_
    refine J.iload_n 1 d_L_isTold_34 rfl rfl ?_
    obtain ⟨x13, m14, zm14, h⟩ := jbd_some h
    refine J.cSi Y_C_isIn (As := [.int x12, .int v1]) (rest := []) d_L_isTold_35 mi_C_isIn ms_C_isIn lk_L_68 ⟨rfl, rfl, Nat.le_of_ble_eq_true rfl⟩ (c_C_isIn hG zm14) rfl (Nat.le_trans jcN (Nat.le_of_ble_eq_true rfl)) ?_
    obtain ⟨g, h⟩ := jgd_some h
    cases h
    exact J.iret d_L_isTold_38 rfl (jnar_z g) rfl
  · rw [if_neg c0] at h
    by_cases c1 : v3 = (1 : Int32)
    · rw [if_pos c1] at h
      refine J.tsIn 39 d_L_isTold_1 c1 (by decide) (by decide) rfl (by decide) ?_
      refine J.aload_n 0 d_L_isTold_39 rfl rfl ?_
      refine J.getF (n := 41) hG d_L_isTold_40 fl_L_45 ck_29_11 rfl ?_
      refine J.iload_n 1 d_L_isTold_43 rfl rfl ?_
      obtain ⟨x10, ex10, g, h⟩ := jld_some h
      refine J.il hG d_L_isTold_44 g ex10 ?_
      refine J.aload_n 0 d_L_isTold_45 rfl rfl ?_
      refine J.getF (n := 41) hG d_L_isTold_46 fl_L_45 ck_29_11 rfl ?_
      refine J.iload_n 2 d_L_isTold_49 rfl rfl ?_
      obtain ⟨x11, ex11, g, h⟩ := jld_some h
      refine J.il hG d_L_isTold_50 g ex11 ?_
      refine J.nop (pc' := 51) rfl ?_
      refine J.icmp_ge 58 d_L_isTold_51 rfl (fun c => ?_) (fun c => ?_)
      · rw [if_pos c] at h
        refine J.iconst (v := (0 : Int32)) d_L_isTold_58 ki_0 ?_
        cases h
        exact J.iret d_L_isTold_59 rfl rfl rfl
      · rw [if_neg c] at h
        refine J.iconst (v := (1 : Int32)) d_L_isTold_54 ki_1 ?_
        refine J.goto 59 d_L_isTold_55 rfl ?_
        cases h
        exact J.iret d_L_isTold_59 rfl rfl rfl
    · rw [if_neg c1] at h
      by_cases c2 : v3 = (2 : Int32)
      · rw [if_pos c2] at h
        refine J.tsIn 60 d_L_isTold_1 c2 (by decide) (by decide) rfl (by decide) ?_
        refine J.aload_n 0 d_L_isTold_60 rfl rfl ?_
        refine J.iload_n 2 d_L_isTold_61 rfl rfl ?_
        refine J.aload_n 0 d_L_isTold_62 rfl rfl ?_
        refine J.getF (n := 30) hG d_L_isTold_63 fl_L_9 ck_29_0 rfl ?_
        refine J.iload_n 1 d_L_isTold_66 rfl rfl ?_
        obtain ⟨x4, ex4, g, h⟩ := jld_some h
        refine J.il hG d_L_isTold_67 g ex4 ?_
        obtain ⟨x5, m6, zm6, h⟩ := jbd_some h
        refine J.cVi Y_L_numberFor (As := [.int v2, .int x4]) (rest := []) hG d_L_isTold_68 mi_L_numberFor mv_L_numberFor lk_L_100 ⟨rfl, rfl, Nat.le_of_ble_eq_true rfl⟩ cq_29 cc_4 (c_L_numberFor hG zm6) rfl (Nat.le_trans jcN (Nat.le_of_ble_eq_true rfl)) ?_
        refine J.aload_n 0 d_L_isTold_71 rfl rfl ?_
        refine J.nop (pc' := 72) rfl ?_
        refine J.iload_n 1 d_L_isTold_72 rfl rfl ?_
        refine J.aload_n 0 d_L_isTold_73 rfl rfl ?_
        refine J.getF (n := 30) hG d_L_isTold_74 fl_L_9 ck_29_0 rfl ?_
        refine J.iload_n 1 d_L_isTold_77 rfl rfl ?_
        obtain ⟨x7, ex7, g, h⟩ := jld_some h
        refine J.il hG d_L_isTold_78 g ex7 ?_
        obtain ⟨x8, m9, zm9, h⟩ := jbd_some h
        refine J.cVi Y_L_numberFor (As := [.int v1, .int x7]) (rest := [.int x5]) hG d_L_isTold_79 mi_L_numberFor mv_L_numberFor lk_L_100 ⟨rfl, rfl, Nat.le_of_ble_eq_true rfl⟩ cq_29 cc_4 (c_L_numberFor hG zm9) rfl (Nat.le_trans (jcI jcN) (Nat.le_of_ble_eq_true rfl)) ?_
        refine J.icmp_lt 89 d_L_isTold_82 rfl (fun c => ?_) (fun c => ?_)
        · rw [if_pos c] at h
          refine J.iconst (v := (0 : Int32)) d_L_isTold_89 ki_0 ?_
          cases h
          exact J.iret d_L_isTold_90 rfl rfl rfl
        · rw [if_neg c] at h
          refine J.iconst (v := (1 : Int32)) d_L_isTold_85 ki_1 ?_
          refine J.nop (pc' := 86) rfl ?_
          refine J.goto 90 d_L_isTold_86 rfl ?_
          cases h
          exact J.iret d_L_isTold_90 rfl rfl rfl
      · rw [if_neg c2] at h
        refine J.tsOut 91 d_L_isTold_1 (jts0 (n := 3) (by decide) (fun k hk => match k, hk with | 0, _ => c0 | 1, _ => c1 | 2, _ => c2 | k + 3, hk => absurd hk (by omega))) rfl ?_
        refine J.aload_n 0 d_L_isTold_91 rfl rfl ?_
        refine J.getF (n := 40) hG d_L_isTold_92 fl_L_42 ck_29_10 rfl ?_
        refine J.iload_n 2 d_L_isTold_95 rfl rfl ?_
        obtain ⟨x1, ex1, g, h⟩ := jld_some h
        refine J.il hG d_L_isTold_96 g ex1 ?_
        refine J.iload_n 1 d_L_isTold_97 rfl rfl ?_
        obtain ⟨x2, m3, zm3, h⟩ := jbd_some h
        refine J.cSi Y_C_isIn (As := [.int x1, .int v1]) (rest := []) d_L_isTold_98 mi_C_isIn ms_C_isIn lk_L_68 ⟨rfl, rfl, Nat.le_of_ble_eq_true rfl⟩ (c_C_isIn hG zm3) rfl (Nat.le_trans jcN (Nat.le_of_ble_eq_true rfl)) ?_
        obtain ⟨g, h⟩ := jgd_some h
        cases h
        exact J.iret d_L_isTold_101 rfl (jnar_z g) rfl

def lp_L_toldWrongly_15 (v1 : Int32) (v3 : Int32) (k61 : Int32 → jMem → Option (Int32 × jMem)) : Nat → Int32 → Int32 → jMem → Option (Int32 × jMem)
  | 0, _, _, _ => none
  | n + 1, v2, v4, m =>
    if (m 29 15) ≤ v4 then
      k61 v2 m
    else
      if v3 = v4 then
        lp_L_toldWrongly_15 v1 v3 k61 n v2 (v4 + (1 : Int32)) m
      else
        jbd (f_L_isTold v3 v4 v1 m) fun x1 m2 =>
        jld 1 m2 37 v4 fun x3 =>
        jbd (f_C_isIn x3 v3 m2) fun x4 m5 =>
        if x1 = x4 then
          lp_L_toldWrongly_15 v1 v3 k61 n v2 (v4 + (1 : Int32)) m5
        else
          lp_L_toldWrongly_15 v1 v3 k61 n (v2 + (1 : Int32)) (v4 + (1 : Int32)) m5
def lp_L_toldWrongly_4 (v1 : Int32) (k67 : Int32 → jMem → Option (Int32 × jMem)) : Nat → Int32 → Int32 → jMem → Option (Int32 × jMem)
  | 0, _, _, _ => none
  | n + 1, v2, v3, m =>
    if (m 29 15) ≤ v3 then
      k67 v2 m
    else
      lp_L_toldWrongly_15 v1 v3 (fun w7 m6 =>
        lp_L_toldWrongly_4 v1 k67 n w7 (v3 + (1 : Int32)) m6) 5000 v2 (0 : Int32) m
def f_L_toldWrongly (v1 : Int32) (m : jMem) : Option (Int32 × jMem) :=
  lp_L_toldWrongly_4 v1 (fun w9 m8 =>
    some (w9, m8)) 5000 (0 : Int32) (0 : Int32) m
theorem jlp_L_toldWrongly_15 {G : jG} (hG : jFul G) (v1 : Int32) (v3 : Int32) (k61 : Int32 → jMem → Option (Int32 × jMem))
    (hk61 : ∀ (v2 : Int32) (m : jMem) (r : (Int32 × jMem)), k61 v2 m = some r → J G Y_L_toldWrongly 61 [(0, jr G 29), (1, .int v1), (2, .int v2), (3, .int v3)] [] m (jri r)) : ∀ (n : Nat) (v2 : Int32) (v4 : Int32) (m : jMem) (r : (Int32 × jMem)), lp_L_toldWrongly_15 v1 v3 k61 n v2 v4 m = some r → J G Y_L_toldWrongly 15 [(0, jr G 29), (1, .int v1), (2, .int v2), (3, .int v3), (4, .int v4)] [] m (jri r) := by
  intro n
  induction n with
  | zero => intro v2 v4 m r h; unfold lp_L_toldWrongly_15 at h; cases h
  | succ n ih =>
    intro v2 v4 m r h
    unfold lp_L_toldWrongly_15 at h
    refine J.iload 4 d_L_toldWrongly_15 rfl ?_
    refine J.aload_n 0 d_L_toldWrongly_17 rfl rfl ?_
    refine J.getI hG d_L_toldWrongly_18 fl_L_57 ck_29_15 ?_
    refine J.icmp_ge 61 d_L_toldWrongly_21 rfl (fun c => ?_) (fun c => ?_)
    · rw [if_pos c] at h
      exact J.sub (ls' := [(0, jr G 29), (1, .int v1), (2, .int v2), (3, .int v3)]) [0, 1, 2, 3] rfl (hk61 v2 m _ h)
    · rw [if_neg c] at h
      refine J.iload_n 3 d_L_toldWrongly_24 rfl rfl ?_
      refine J.iload 4 d_L_toldWrongly_25 rfl ?_
      refine J.icmp_eq 55 d_L_toldWrongly_27 rfl (fun c => ?_) (fun c => ?_)
      · rw [if_pos c] at h
        refine J.iinc 4 (v := (1 : Int32)) (lv := [(4, .int (v4 + (1 : Int32))), (0, jr G 29), (1, .int v1), (2, .int v2), (3, .int v3)]) d_L_toldWrongly_55 rfl ki_1 (by decide) rfl ?_
        refine J.goto 15 d_L_toldWrongly_58 rfl ?_
        exact J.sub (ls' := [(0, jr G 29), (1, .int v1), (2, .int v2), (3, .int v3), (4, .int (v4 + (1 : Int32)))]) [1, 2, 3, 4, 0] rfl (ih v2 (v4 + (1 : Int32)) m _ h)
      · rw [if_neg c] at h
        refine J.aload_n 0 d_L_toldWrongly_30 rfl rfl ?_
        refine J.nop (pc' := 31) rfl ?_
        refine J.iload_n 3 d_L_toldWrongly_31 rfl rfl ?_
        refine J.iload 4 d_L_toldWrongly_32 rfl ?_
        refine J.iload_n 1 d_L_toldWrongly_34 rfl rfl ?_
        obtain ⟨x1, m2, zm2, h⟩ := jbd_some h
        refine J.cVi Y_L_isTold (As := [.int v3, .int v4, .int v1]) (rest := []) hG d_L_toldWrongly_35 mi_L_isTold mv_L_isTold lk_L_103 ⟨rfl, rfl, Nat.le_of_ble_eq_true rfl⟩ cq_29 cc_4 (c_L_isTold hG zm2) rfl (Nat.le_trans jcN (Nat.le_of_ble_eq_true rfl)) ?_
        refine J.aload_n 0 d_L_toldWrongly_38 rfl rfl ?_
        refine J.getF (n := 37) hG d_L_toldWrongly_39 fl_L_33 ck_29_7 rfl ?_
        refine J.iload 4 d_L_toldWrongly_42 rfl ?_
        obtain ⟨x3, ex3, g, h⟩ := jld_some h
        refine J.il hG d_L_toldWrongly_44 g ex3 ?_
        refine J.nop (pc' := 45) rfl ?_
        refine J.iload_n 3 d_L_toldWrongly_45 rfl rfl ?_
        obtain ⟨x4, m5, zm5, h⟩ := jbd_some h
        refine J.cSi Y_C_isIn (As := [.int x3, .int v3]) (rest := [.int x1]) d_L_toldWrongly_46 mi_C_isIn ms_C_isIn lk_L_68 ⟨rfl, rfl, Nat.le_of_ble_eq_true rfl⟩ (c_C_isIn hG zm5) rfl (Nat.le_trans (jcI jcN) (Nat.le_of_ble_eq_true rfl)) ?_
        refine J.icmp_eq 55 d_L_toldWrongly_49 rfl (fun c => ?_) (fun c => ?_)
        · rw [if_pos c] at h
          refine J.iinc 4 (v := (1 : Int32)) (lv := [(4, .int (v4 + (1 : Int32))), (0, jr G 29), (1, .int v1), (2, .int v2), (3, .int v3)]) d_L_toldWrongly_55 rfl ki_1 (by decide) rfl ?_
          refine J.goto 15 d_L_toldWrongly_58 rfl ?_
          exact J.sub (ls' := [(0, jr G 29), (1, .int v1), (2, .int v2), (3, .int v3), (4, .int (v4 + (1 : Int32)))]) [1, 2, 3, 4, 0] rfl (ih v2 (v4 + (1 : Int32)) m5 _ h)
        · rw [if_neg c] at h
          refine J.iinc 2 (v := (1 : Int32)) (lv := [(2, .int (v2 + (1 : Int32))), (0, jr G 29), (1, .int v1), (3, .int v3), (4, .int v4)]) d_L_toldWrongly_52 rfl ki_1 (by decide) rfl ?_
          refine J.iinc 4 (v := (1 : Int32)) (lv := [(4, .int (v4 + (1 : Int32))), (2, .int (v2 + (1 : Int32))), (0, jr G 29), (1, .int v1), (3, .int v3)]) d_L_toldWrongly_55 rfl ki_1 (by decide) rfl ?_
          refine J.goto 15 d_L_toldWrongly_58 rfl ?_
          exact J.sub (ls' := [(0, jr G 29), (1, .int v1), (2, .int (v2 + (1 : Int32))), (3, .int v3), (4, .int (v4 + (1 : Int32)))]) [2, 3, 1, 4, 0] rfl (ih (v2 + (1 : Int32)) (v4 + (1 : Int32)) m5 _ h)
theorem jlp_L_toldWrongly_4 {G : jG} (hG : jFul G) (v1 : Int32) (k67 : Int32 → jMem → Option (Int32 × jMem))
    (hk67 : ∀ (v2 : Int32) (m : jMem) (r : (Int32 × jMem)), k67 v2 m = some r → J G Y_L_toldWrongly 67 [(2, .int v2)] [] m (jri r)) : ∀ (n : Nat) (v2 : Int32) (v3 : Int32) (m : jMem) (r : (Int32 × jMem)), lp_L_toldWrongly_4 v1 k67 n v2 v3 m = some r → J G Y_L_toldWrongly 4 [(0, jr G 29), (1, .int v1), (2, .int v2), (3, .int v3)] [] m (jri r) := by
  intro n
  induction n with
  | zero => intro v2 v3 m r h; unfold lp_L_toldWrongly_4 at h; cases h
  | succ n ih =>
    intro v2 v3 m r h
    unfold lp_L_toldWrongly_4 at h
    refine J.iload_n 3 d_L_toldWrongly_4 rfl rfl ?_
    refine J.aload_n 0 d_L_toldWrongly_5 rfl rfl ?_
    refine J.getI hG d_L_toldWrongly_6 fl_L_57 ck_29_15 ?_
    refine J.icmp_ge 67 d_L_toldWrongly_9 rfl (fun c => ?_) (fun c => ?_)
    · rw [if_pos c] at h
      exact J.sub (ls' := [(2, .int v2)]) [2] rfl (hk67 v2 m _ h)
    · rw [if_neg c] at h
      refine J.iconst (v := (0 : Int32)) d_L_toldWrongly_12 ki_0 ?_
      refine J.istore (lv := [(4, .int (0 : Int32)), (0, jr G 29), (1, .int v1), (2, .int v2), (3, .int v3)]) d_L_toldWrongly_13 (by decide) rfl ?_
      refine J.sub (ls' := [(0, jr G 29), (1, .int v1), (2, .int v2), (3, .int v3), (4, .int (0 : Int32))]) [1, 2, 3, 4, 0] rfl ?_
      refine jlp_L_toldWrongly_15 hG v1 v3 _ ?_ _ v2 (0 : Int32) m _ h
      intro w7 m6 r h
      refine J.iinc 3 (v := (1 : Int32)) (lv := [(3, .int (v3 + (1 : Int32))), (0, jr G 29), (1, .int v1), (2, .int w7)]) d_L_toldWrongly_61 rfl ki_1 (by decide) rfl ?_
      refine J.goto 4 d_L_toldWrongly_64 rfl ?_
      exact J.sub (ls' := [(0, jr G 29), (1, .int v1), (2, .int w7), (3, .int (v3 + (1 : Int32)))]) [1, 2, 3, 0] rfl (ih w7 (v3 + (1 : Int32)) m6 _ h)
theorem c_L_toldWrongly {G : jG} (hG : jFul G) {v1 : Int32} {m : jMem} {r : (Int32 × jMem)} (h : f_L_toldWrongly v1 m = some r) : jCt G Y_L_toldWrongly [jr G 29, .int v1] m (jri r) := by
  refine jCt.ov (ls := [(0, jr G 29), (1, .int v1)]) mi_L_toldWrongly (jAvR (jAvI jAvN)) (Nat.le_of_ble_eq_true rfl) ?_ ⟨rfl, rfl⟩
  unfold f_L_toldWrongly at h
  refine J.iconst (v := (0 : Int32)) d_L_toldWrongly_0 ki_0 ?_
  refine J.istore_n (lv := [(2, .int (0 : Int32)), (0, jr G 29), (1, .int v1)]) d_L_toldWrongly_1 rfl (by decide) rfl ?_
  refine J.iconst (v := (0 : Int32)) d_L_toldWrongly_2 ki_0 ?_
  refine J.istore_n (lv := [(3, .int (0 : Int32)), (2, .int (0 : Int32)), (0, jr G 29), (1, .int v1)]) d_L_toldWrongly_3 rfl (by decide) rfl ?_
  refine J.sub (ls' := [(0, jr G 29), (1, .int v1), (2, .int (0 : Int32)), (3, .int (0 : Int32))]) [2, 3, 1, 0] rfl ?_
  refine jlp_L_toldWrongly_4 hG v1 _ ?_ _ (0 : Int32) (0 : Int32) m _ h
  intro w9 m8 r h
  refine J.iload_n 0 d_L_toldWrongly_67 rfl rfl ?_
  cases h
  exact J.iret d_L_toldWrongly_68 rfl (vp_nar_int _) rfl

def f_L_isSet (v1 : Int32) (m : jMem) : Option (Int32 × jMem) :=
  if v1 < 0 then
    some ((0 : Int32), m)
  else
    jbd (f_C_bit (m 29 15) m) fun x1 m2 =>
    if (v1 &&& ((x1 - (1 : Int32)) ^^^ (-1 : Int32))) = 0 then
      some ((1 : Int32), m2)
    else
      some ((0 : Int32), m2)
theorem c_L_isSet {G : jG} (hG : jFul G) {v1 : Int32} {m : jMem} {r : (Int32 × jMem)} (h : f_L_isSet v1 m = some r) : jCt G Y_L_isSet [jr G 29, .int v1] m (jri r) := by
  refine jCt.ov (ls := [(0, jr G 29), (1, .int v1)]) mi_L_isSet (jAvR (jAvI jAvN)) (Nat.le_of_ble_eq_true rfl) ?_ ⟨rfl, rfl⟩
  unfold f_L_isSet at h
  refine J.iload_n 1 d_L_isSet_0 rfl rfl ?_
  refine J.if_lt 24 d_L_isSet_1 rfl (fun c => ?_) (fun c => ?_)
  · rw [if_pos c] at h
    refine J.iconst (v := (0 : Int32)) d_L_isSet_24 ki_0 ?_
    cases h
    exact J.iret d_L_isSet_25 rfl rfl rfl
  · rw [if_neg c] at h
    refine J.iload_n 1 d_L_isSet_4 rfl rfl ?_
    refine J.aload_n 0 d_L_isSet_5 rfl rfl ?_
    refine J.getI hG d_L_isSet_6 fl_L_57 ck_29_15 ?_
    obtain ⟨x1, m2, zm2, h⟩ := jbd_some h
    refine J.cSi Y_C_bit (As := [.int (m 29 15)]) (rest := [.int v1]) d_L_isSet_9 mi_C_bit ms_C_bit lk_L_72 ⟨rfl, rfl, Nat.le_of_ble_eq_true rfl⟩ (c_C_bit hG zm2) rfl (Nat.le_trans (jcI jcN) (Nat.le_of_ble_eq_true rfl)) ?_
    refine J.iconst (v := (1 : Int32)) d_L_isSet_12 ki_1 ?_
    refine J.isub d_L_isSet_13 ?_
    refine J.nop (pc' := 14) rfl ?_
    refine J.iconst (v := (-1 : Int32)) d_L_isSet_14 ki_m1 ?_
    refine J.ixor d_L_isSet_15 ?_
    refine J.iand d_L_isSet_16 ?_
    refine J.if_ne 24 d_L_isSet_17 rfl (fun c => ?_) (fun c => ?_)
    · rw [if_neg c] at h
      refine J.iconst (v := (0 : Int32)) d_L_isSet_24 ki_0 ?_
      cases h
      exact J.iret d_L_isSet_25 rfl rfl rfl
    · rw [if_pos c] at h
      refine J.iconst (v := (1 : Int32)) d_L_isSet_20 ki_1 ?_
      refine J.goto 25 d_L_isSet_21 rfl ?_
      cases h
      exact J.iret d_L_isSet_25 rfl rfl rfl

def f_L_isLeft (v1 : Int32) (m : jMem) : Option (Int32 × jMem) :=
  jbd (f_L_isLetter v1 m) fun x1 m2 =>
  if x1 = 0 then
    some ((0 : Int32), m2)
  else
    jbd (f_C_isIn (m2 29 16) v1 m2) fun x3 m4 =>
    if x3 = 0 then
      some ((0 : Int32), m4)
    else
      some ((1 : Int32), m4)
theorem c_L_isLeft {G : jG} (hG : jFul G) {v1 : Int32} {m : jMem} {r : (Int32 × jMem)} (h : f_L_isLeft v1 m = some r) : jCt G Y_L_isLeft [jr G 29, .int v1] m (jri r) := by
  refine jCt.ov (ls := [(0, jr G 29), (1, .int v1)]) mi_L_isLeft (jAvR (jAvI jAvN)) (Nat.le_of_ble_eq_true rfl) ?_ ⟨rfl, rfl⟩
  unfold f_L_isLeft at h
  refine J.aload_n 0 d_L_isLeft_0 rfl rfl ?_
  refine J.iload_n 1 d_L_isLeft_1 rfl rfl ?_
  obtain ⟨x1, m2, zm2, h⟩ := jbd_some h
  refine J.cVi Y_L_isLetter (As := [.int v1]) (rest := []) hG d_L_isLeft_2 mi_L_isLetter mv_L_isLetter lk_L_61 ⟨rfl, rfl, Nat.le_of_ble_eq_true rfl⟩ cq_29 cc_4 (c_L_isLetter hG zm2) rfl (Nat.le_trans jcN (Nat.le_of_ble_eq_true rfl)) ?_
  refine J.if_eq 23 d_L_isLeft_5 rfl (fun c => ?_) (fun c => ?_)
  · rw [if_pos c] at h
    refine J.iconst (v := (0 : Int32)) d_L_isLeft_23 ki_0 ?_
    cases h
    exact J.iret d_L_isLeft_24 rfl rfl rfl
  · rw [if_neg c] at h
    refine J.aload_n 0 d_L_isLeft_8 rfl rfl ?_
    refine J.getI hG d_L_isLeft_9 fl_L_65 ck_29_16 ?_
    refine J.iload_n 1 d_L_isLeft_12 rfl rfl ?_
    obtain ⟨x3, m4, zm4, h⟩ := jbd_some h
    refine J.cSi Y_C_isIn (As := [.int (m2 29 16), .int v1]) (rest := []) d_L_isLeft_13 mi_C_isIn ms_C_isIn lk_L_68 ⟨rfl, rfl, Nat.le_of_ble_eq_true rfl⟩ (c_C_isIn hG zm4) rfl (Nat.le_trans jcN (Nat.le_of_ble_eq_true rfl)) ?_
    refine J.nop (pc' := 16) rfl ?_
    refine J.if_eq 23 d_L_isLeft_16 rfl (fun c => ?_) (fun c => ?_)
    · rw [if_pos c] at h
      refine J.iconst (v := (0 : Int32)) d_L_isLeft_23 ki_0 ?_
      cases h
      exact J.iret d_L_isLeft_24 rfl rfl rfl
    · rw [if_neg c] at h
      refine J.iconst (v := (1 : Int32)) d_L_isLeft_19 ki_1 ?_
      refine J.goto 24 d_L_isLeft_20 rfl ?_
      cases h
      exact J.iret d_L_isLeft_24 rfl rfl rfl

def lp_L_citesThroughLeft_8 (v2 : Int32) (k43 : Int32 → jMem → Option (Int32 × jMem)) : Nat → Int32 → Int32 → jMem → Option (Int32 × jMem)
  | 0, _, _, _ => none
  | n + 1, v3, v4, m =>
    if v4 ≤ v2 then
      k43 v3 m
    else
      jbd (f_C_isIn v3 v4 m) fun x3 m4 =>
      if x3 = 0 then
        lp_L_citesThroughLeft_8 v2 k43 n v3 (v4 + (-1 : Int32)) m4
      else
        jbd (f_L_answered v4 m4) fun x5 m6 =>
        lp_L_citesThroughLeft_8 v2 k43 n (v3 ||| (x5 &&& (m6 29 16))) (v4 + (-1 : Int32)) m6
def f_L_citesThroughLeft (v1 : Int32) (v2 : Int32) (m : jMem) : Option (Int32 × jMem) :=
  jbd (f_C_bit v1 m) fun x1 m2 =>
  lp_L_citesThroughLeft_8 v2 (fun w8 m7 =>
    jbd (f_C_isIn w8 v2 m7) fun x9 m10 =>
    jgd (x9 = 0 ∨ x9 = 1) (some (x9, m10))) 5000 x1 v1 m2
theorem jlp_L_citesThroughLeft_8 {G : jG} (hG : jFul G) (v2 : Int32) (k43 : Int32 → jMem → Option (Int32 × jMem))
    (hk43 : ∀ (v3 : Int32) (m : jMem) (r : (Int32 × jMem)), k43 v3 m = some r → J G Y_L_citesThroughLeft 43 [(2, .int v2), (3, .int v3)] [] m (jri r)) : ∀ (n : Nat) (v3 : Int32) (v4 : Int32) (m : jMem) (r : (Int32 × jMem)), lp_L_citesThroughLeft_8 v2 k43 n v3 v4 m = some r → J G Y_L_citesThroughLeft 8 [(0, jr G 29), (2, .int v2), (3, .int v3), (4, .int v4)] [] m (jri r) := by
  intro n
  induction n with
  | zero => intro v3 v4 m r h; unfold lp_L_citesThroughLeft_8 at h; cases h
  | succ n ih =>
    intro v3 v4 m r h
    unfold lp_L_citesThroughLeft_8 at h
    refine J.iload 3 d_L_citesThroughLeft_8 rfl ?_
    refine J.iload_n 1 d_L_citesThroughLeft_10 rfl rfl ?_
    refine J.icmp_le 43 d_L_citesThroughLeft_11 rfl (fun c => ?_) (fun c => ?_)
    · rw [if_pos c] at h
      exact J.sub (ls' := [(2, .int v2), (3, .int v3)]) [1, 2] rfl (hk43 v3 m _ h)
    · rw [if_neg c] at h
      refine J.iload_n 2 d_L_citesThroughLeft_14 rfl rfl ?_
      refine J.iload 3 d_L_citesThroughLeft_15 rfl ?_
      obtain ⟨x3, m4, zm4, h⟩ := jbd_some h
      refine J.cSi Y_C_isIn (As := [.int v3, .int v4]) (rest := []) d_L_citesThroughLeft_17 mi_C_isIn ms_C_isIn lk_L_68 ⟨rfl, rfl, Nat.le_of_ble_eq_true rfl⟩ (c_C_isIn hG zm4) rfl (Nat.le_trans jcN (Nat.le_of_ble_eq_true rfl)) ?_
      refine J.if_eq 37 d_L_citesThroughLeft_20 rfl (fun c => ?_) (fun c => ?_)
      · rw [if_pos c] at h
        refine J.iinc 3 (v := (-1 : Int32)) (lv := [(4, .int (v4 + (-1 : Int32))), (0, jr G 29), (2, .int v2), (3, .int v3)]) d_L_citesThroughLeft_37 rfl ki_m1 (by decide) rfl ?_
        refine J.goto 8 d_L_citesThroughLeft_40 rfl ?_
        exact J.sub (ls' := [(0, jr G 29), (2, .int v2), (3, .int v3), (4, .int (v4 + (-1 : Int32)))]) [1, 2, 3, 0] rfl (ih v3 (v4 + (-1 : Int32)) m4 _ h)
      · rw [if_neg c] at h
        refine J.iload_n 2 d_L_citesThroughLeft_23 rfl rfl ?_
        refine J.nop (pc' := 24) rfl ?_
        refine J.aload_n 0 d_L_citesThroughLeft_24 rfl rfl ?_
        refine J.iload 3 d_L_citesThroughLeft_25 rfl ?_
        obtain ⟨x5, m6, zm6, h⟩ := jbd_some h
        refine J.cVi Y_L_answered (As := [.int v4]) (rest := [.int v3]) hG d_L_citesThroughLeft_27 mi_L_answered mv_L_answered lk_L_83 ⟨rfl, rfl, Nat.le_of_ble_eq_true rfl⟩ cq_29 cc_4 (c_L_answered hG zm6) rfl (Nat.le_trans (jcI jcN) (Nat.le_of_ble_eq_true rfl)) ?_
        refine J.aload_n 0 d_L_citesThroughLeft_30 rfl rfl ?_
        refine J.getI hG d_L_citesThroughLeft_31 fl_L_65 ck_29_16 ?_
        refine J.iand d_L_citesThroughLeft_34 ?_
        refine J.ior d_L_citesThroughLeft_35 ?_
        refine J.istore_n (lv := [(3, .int (v3 ||| (x5 &&& (m6 29 16)))), (0, jr G 29), (2, .int v2), (4, .int v4)]) d_L_citesThroughLeft_36 rfl (by decide) rfl ?_
        refine J.nop (pc' := 37) rfl ?_
        refine J.iinc 3 (v := (-1 : Int32)) (lv := [(4, .int (v4 + (-1 : Int32))), (3, .int (v3 ||| (x5 &&& (m6 29 16)))), (0, jr G 29), (2, .int v2)]) d_L_citesThroughLeft_37 rfl ki_m1 (by decide) rfl ?_
        refine J.goto 8 d_L_citesThroughLeft_40 rfl ?_
        exact J.sub (ls' := [(0, jr G 29), (2, .int v2), (3, .int (v3 ||| (x5 &&& (m6 29 16)))), (4, .int (v4 + (-1 : Int32)))]) [2, 3, 1, 0] rfl (ih (v3 ||| (x5 &&& (m6 29 16))) (v4 + (-1 : Int32)) m6 _ h)
theorem c_L_citesThroughLeft {G : jG} (hG : jFul G) {v1 : Int32} {v2 : Int32} {m : jMem} {r : (Int32 × jMem)} (h : f_L_citesThroughLeft v1 v2 m = some r) : jCt G Y_L_citesThroughLeft [jr G 29, .int v1, .int v2] m (jri r) := by
  refine jCt.ov (ls := [(0, jr G 29), (1, .int v1), (2, .int v2)]) mi_L_citesThroughLeft (jAvR (jAvI (jAvI jAvN))) (Nat.le_of_ble_eq_true rfl) ?_ ⟨rfl, rfl⟩
  unfold f_L_citesThroughLeft at h
  refine J.iload_n 1 d_L_citesThroughLeft_0 rfl rfl ?_
  obtain ⟨x1, m2, zm2, h⟩ := jbd_some h
  refine J.cSi Y_C_bit (As := [.int v1]) (rest := []) d_L_citesThroughLeft_1 mi_C_bit ms_C_bit lk_L_72 ⟨rfl, rfl, Nat.le_of_ble_eq_true rfl⟩ (c_C_bit hG zm2) rfl (Nat.le_trans jcN (Nat.le_of_ble_eq_true rfl)) ?_
  refine J.istore_n (lv := [(3, .int x1), (0, jr G 29), (1, .int v1), (2, .int v2)]) d_L_citesThroughLeft_4 rfl (by decide) rfl ?_
  refine J.iload_n 2 d_L_citesThroughLeft_5 rfl rfl ?_
  refine J.istore (lv := [(4, .int v1), (3, .int x1), (0, jr G 29), (1, .int v1), (2, .int v2)]) d_L_citesThroughLeft_6 (by decide) rfl ?_
  refine J.sub (ls' := [(0, jr G 29), (2, .int v2), (3, .int x1), (4, .int v1)]) [2, 4, 1, 0] rfl ?_
  refine jlp_L_citesThroughLeft_8 hG v2 _ ?_ _ x1 v1 m2 _ h
  intro w8 m7 r h
  refine J.iload_n 1 d_L_citesThroughLeft_43 rfl rfl ?_
  refine J.iload_n 0 d_L_citesThroughLeft_44 rfl rfl ?_
  obtain ⟨x9, m10, zm10, h⟩ := jbd_some h
  refine J.cSi Y_C_isIn (As := [.int w8, .int v2]) (rest := []) d_L_citesThroughLeft_45 mi_C_isIn ms_C_isIn lk_L_68 ⟨rfl, rfl, Nat.le_of_ble_eq_true rfl⟩ (c_C_isIn hG zm10) rfl (Nat.le_trans jcN (Nat.le_of_ble_eq_true rfl)) ?_
  obtain ⟨g, h⟩ := jgd_some h
  cases h
  exact J.iret d_L_citesThroughLeft_48 rfl (jnar_z g) rfl

def lp_L_ofWriter_5 (v1 : Int32) (v2 : Int32) (k33 : Int32 → jMem → Option (Int32 × jMem)) (k42 : jMem → Option (Int32 × jMem)) : Nat → Int32 → Int32 → jMem → Option (Int32 × jMem)
  | 0, _, _, _ => none
  | n + 1, v3, v4, m =>
    if (m 29 15) ≤ v4 then
      k42 m
    else
      jld 1 m 30 v4 fun x1 =>
      if x1 = v1 then
        if (v3 + (1 : Int32)) = v2 then
          k33 v4 m
        else
          lp_L_ofWriter_5 v1 v2 k33 k42 n (v3 + (1 : Int32)) (v4 + (1 : Int32)) m
      else
        lp_L_ofWriter_5 v1 v2 k33 k42 n v3 (v4 + (1 : Int32)) m
def f_L_ofWriter (v1 : Int32) (v2 : Int32) (m : jMem) : Option (Int32 × jMem) :=
  lp_L_ofWriter_5 v1 v2 (fun w3 m2 =>
    some (w3, m2)) (fun m4 =>
    some ((-1 : Int32), m4)) 5000 (0 : Int32) (0 : Int32) m
theorem jlp_L_ofWriter_5 {G : jG} (hG : jFul G) (v1 : Int32) (v2 : Int32) (k33 : Int32 → jMem → Option (Int32 × jMem)) (k42 : jMem → Option (Int32 × jMem))
    (hk33 : ∀ (v4 : Int32) (m : jMem) (r : (Int32 × jMem)), k33 v4 m = some r → J G Y_L_ofWriter 33 [(4, .int v4)] [] m (jri r))
    (hk42 : ∀ (m : jMem) (r : (Int32 × jMem)), k42 m = some r → J G Y_L_ofWriter 42 [] [] m (jri r)) : ∀ (n : Nat) (v3 : Int32) (v4 : Int32) (m : jMem) (r : (Int32 × jMem)), lp_L_ofWriter_5 v1 v2 k33 k42 n v3 v4 m = some r → J G Y_L_ofWriter 5 [(0, jr G 29), (1, .int v1), (2, .int v2), (3, .int v3), (4, .int v4)] [] m (jri r) := by
  intro n
  induction n with
  | zero => intro v3 v4 m r h; unfold lp_L_ofWriter_5 at h; cases h
  | succ n ih =>
    intro v3 v4 m r h
    unfold lp_L_ofWriter_5 at h
    refine J.iload 4 d_L_ofWriter_5 rfl ?_
    refine J.aload_n 0 d_L_ofWriter_7 rfl rfl ?_
    refine J.getI hG d_L_ofWriter_8 fl_L_57 ck_29_15 ?_
    refine J.icmp_ge 42 d_L_ofWriter_11 rfl (fun c => ?_) (fun c => ?_)
    · rw [if_pos c] at h
      exact J.sub (ls' := []) [] rfl (hk42  m _ h)
    · rw [if_neg c] at h
      refine J.aload_n 0 d_L_ofWriter_14 rfl rfl ?_
      refine J.getF (n := 30) hG d_L_ofWriter_15 fl_L_9 ck_29_0 rfl ?_
      refine J.iload 4 d_L_ofWriter_18 rfl ?_
      obtain ⟨x1, ex1, g, h⟩ := jld_some h
      refine J.il hG d_L_ofWriter_20 g ex1 ?_
      refine J.nop (pc' := 21) rfl ?_
      refine J.iload_n 1 d_L_ofWriter_21 rfl rfl ?_
      refine J.icmp_ne 36 d_L_ofWriter_22 rfl (fun c => ?_) (fun c => ?_)
      · rw [if_neg c] at h
        refine J.iinc 4 (v := (1 : Int32)) (lv := [(4, .int (v4 + (1 : Int32))), (0, jr G 29), (1, .int v1), (2, .int v2), (3, .int v3)]) d_L_ofWriter_36 rfl ki_1 (by decide) rfl ?_
        refine J.goto 5 d_L_ofWriter_39 rfl ?_
        exact J.sub (ls' := [(0, jr G 29), (1, .int v1), (2, .int v2), (3, .int v3), (4, .int (v4 + (1 : Int32)))]) [1, 2, 3, 4, 0] rfl (ih v3 (v4 + (1 : Int32)) m _ h)
      · rw [if_pos c] at h
        refine J.iinc 3 (v := (1 : Int32)) (lv := [(3, .int (v3 + (1 : Int32))), (0, jr G 29), (1, .int v1), (2, .int v2), (4, .int v4)]) d_L_ofWriter_25 rfl ki_1 (by decide) rfl ?_
        refine J.iload_n 0 d_L_ofWriter_28 rfl rfl ?_
        refine J.iload_n 3 d_L_ofWriter_29 rfl rfl ?_
        refine J.icmp_ne 36 d_L_ofWriter_30 rfl (fun c => ?_) (fun c => ?_)
        · rw [if_neg c] at h
          refine J.iinc 4 (v := (1 : Int32)) (lv := [(4, .int (v4 + (1 : Int32))), (3, .int (v3 + (1 : Int32))), (0, jr G 29), (1, .int v1), (2, .int v2)]) d_L_ofWriter_36 rfl ki_1 (by decide) rfl ?_
          refine J.goto 5 d_L_ofWriter_39 rfl ?_
          exact J.sub (ls' := [(0, jr G 29), (1, .int v1), (2, .int v2), (3, .int (v3 + (1 : Int32))), (4, .int (v4 + (1 : Int32)))]) [2, 3, 4, 1, 0] rfl (ih (v3 + (1 : Int32)) (v4 + (1 : Int32)) m _ h)
        · rw [if_pos c] at h
          exact J.sub (ls' := [(4, .int v4)]) [4] rfl (hk33 v4 m _ h)
theorem c_L_ofWriter {G : jG} (hG : jFul G) {v1 : Int32} {v2 : Int32} {m : jMem} {r : (Int32 × jMem)} (h : f_L_ofWriter v1 v2 m = some r) : jCt G Y_L_ofWriter [jr G 29, .int v1, .int v2] m (jri r) := by
  refine jCt.ov (ls := [(0, jr G 29), (1, .int v1), (2, .int v2)]) mi_L_ofWriter (jAvR (jAvI (jAvI jAvN))) (Nat.le_of_ble_eq_true rfl) ?_ ⟨rfl, rfl⟩
  unfold f_L_ofWriter at h
  refine J.iconst (v := (0 : Int32)) d_L_ofWriter_0 ki_0 ?_
  refine J.istore_n (lv := [(3, .int (0 : Int32)), (0, jr G 29), (1, .int v1), (2, .int v2)]) d_L_ofWriter_1 rfl (by decide) rfl ?_
  refine J.iconst (v := (0 : Int32)) d_L_ofWriter_2 ki_0 ?_
  refine J.istore (lv := [(4, .int (0 : Int32)), (3, .int (0 : Int32)), (0, jr G 29), (1, .int v1), (2, .int v2)]) d_L_ofWriter_3 (by decide) rfl ?_
  refine J.sub (ls' := [(0, jr G 29), (1, .int v1), (2, .int v2), (3, .int (0 : Int32)), (4, .int (0 : Int32))]) [2, 3, 4, 1, 0] rfl ?_
  refine jlp_L_ofWriter_5 hG v1 v2 _ _ ?_ ?_ _ (0 : Int32) (0 : Int32) m _ h
  · intro w3 m2 r h
    refine J.iload 0 d_L_ofWriter_33 rfl ?_
    cases h
    exact J.iret d_L_ofWriter_35 rfl (vp_nar_int _) rfl
  · intro m4 r h
    refine J.iconst (v := (-1 : Int32)) d_L_ofWriter_42 ki_m1 ?_
    cases h
    exact J.iret d_L_ofWriter_43 rfl (vp_nar_int _) rfl

def lp_L_writtenBy_5 (v1 : Int32) (v2 : Int32) (k45 : Int32 → jMem → Option (Int32 × jMem)) : Nat → Int32 → Int32 → jMem → Option (Int32 × jMem)
  | 0, _, _, _ => none
  | n + 1, v3, v4, m =>
    if (m 29 15) ≤ v4 then
      k45 v3 m
    else
      jld 1 m 30 v4 fun x1 =>
      if x1 = v1 then
        jld 1 m 31 v4 fun x2 =>
        if v2 < x2 then
          lp_L_writtenBy_5 v1 v2 k45 n v3 (v4 + (1 : Int32)) m
        else
          lp_L_writtenBy_5 v1 v2 k45 n (v3 + (1 : Int32)) (v4 + (1 : Int32)) m
      else
        lp_L_writtenBy_5 v1 v2 k45 n v3 (v4 + (1 : Int32)) m
def f_L_writtenBy (v1 : Int32) (v2 : Int32) (m : jMem) : Option (Int32 × jMem) :=
  lp_L_writtenBy_5 v1 v2 (fun w4 m3 =>
    some (w4, m3)) 5000 (0 : Int32) (0 : Int32) m
theorem jlp_L_writtenBy_5 {G : jG} (hG : jFul G) (v1 : Int32) (v2 : Int32) (k45 : Int32 → jMem → Option (Int32 × jMem))
    (hk45 : ∀ (v3 : Int32) (m : jMem) (r : (Int32 × jMem)), k45 v3 m = some r → J G Y_L_writtenBy 45 [(3, .int v3)] [] m (jri r)) : ∀ (n : Nat) (v3 : Int32) (v4 : Int32) (m : jMem) (r : (Int32 × jMem)), lp_L_writtenBy_5 v1 v2 k45 n v3 v4 m = some r → J G Y_L_writtenBy 5 [(0, jr G 29), (1, .int v1), (2, .int v2), (3, .int v3), (4, .int v4)] [] m (jri r) := by
  intro n
  induction n with
  | zero => intro v3 v4 m r h; unfold lp_L_writtenBy_5 at h; cases h
  | succ n ih =>
    intro v3 v4 m r h
    unfold lp_L_writtenBy_5 at h
    refine J.iload 4 d_L_writtenBy_5 rfl ?_
    refine J.aload_n 0 d_L_writtenBy_7 rfl rfl ?_
    refine J.getI hG d_L_writtenBy_8 fl_L_57 ck_29_15 ?_
    refine J.icmp_ge 45 d_L_writtenBy_11 rfl (fun c => ?_) (fun c => ?_)
    · rw [if_pos c] at h
      exact J.sub (ls' := [(3, .int v3)]) [3] rfl (hk45 v3 m _ h)
    · rw [if_neg c] at h
      refine J.aload_n 0 d_L_writtenBy_14 rfl rfl ?_
      refine J.getF (n := 30) hG d_L_writtenBy_15 fl_L_9 ck_29_0 rfl ?_
      refine J.iload 4 d_L_writtenBy_18 rfl ?_
      obtain ⟨x1, ex1, g, h⟩ := jld_some h
      refine J.il hG d_L_writtenBy_20 g ex1 ?_
      refine J.nop (pc' := 21) rfl ?_
      refine J.iload_n 1 d_L_writtenBy_21 rfl rfl ?_
      refine J.icmp_ne 39 d_L_writtenBy_22 rfl (fun c => ?_) (fun c => ?_)
      · rw [if_neg c] at h
        refine J.iinc 4 (v := (1 : Int32)) (lv := [(4, .int (v4 + (1 : Int32))), (0, jr G 29), (1, .int v1), (2, .int v2), (3, .int v3)]) d_L_writtenBy_39 rfl ki_1 (by decide) rfl ?_
        refine J.goto 5 d_L_writtenBy_42 rfl ?_
        exact J.sub (ls' := [(0, jr G 29), (1, .int v1), (2, .int v2), (3, .int v3), (4, .int (v4 + (1 : Int32)))]) [1, 2, 3, 4, 0] rfl (ih v3 (v4 + (1 : Int32)) m _ h)
      · rw [if_pos c] at h
        refine J.aload_n 0 d_L_writtenBy_25 rfl rfl ?_
        refine J.getF (n := 31) hG d_L_writtenBy_26 fl_L_15 ck_29_1 rfl ?_
        refine J.iload 4 d_L_writtenBy_29 rfl ?_
        obtain ⟨x2, ex2, g, h⟩ := jld_some h
        refine J.il hG d_L_writtenBy_31 g ex2 ?_
        refine J.iload_n 2 d_L_writtenBy_32 rfl rfl ?_
        refine J.icmp_gt 39 d_L_writtenBy_33 rfl (fun c => ?_) (fun c => ?_)
        · rw [if_pos c] at h
          refine J.iinc 4 (v := (1 : Int32)) (lv := [(4, .int (v4 + (1 : Int32))), (0, jr G 29), (1, .int v1), (2, .int v2), (3, .int v3)]) d_L_writtenBy_39 rfl ki_1 (by decide) rfl ?_
          refine J.goto 5 d_L_writtenBy_42 rfl ?_
          exact J.sub (ls' := [(0, jr G 29), (1, .int v1), (2, .int v2), (3, .int v3), (4, .int (v4 + (1 : Int32)))]) [1, 2, 3, 4, 0] rfl (ih v3 (v4 + (1 : Int32)) m _ h)
        · rw [if_neg c] at h
          refine J.nop (pc' := 36) rfl ?_
          refine J.iinc 3 (v := (1 : Int32)) (lv := [(3, .int (v3 + (1 : Int32))), (0, jr G 29), (1, .int v1), (2, .int v2), (4, .int v4)]) d_L_writtenBy_36 rfl ki_1 (by decide) rfl ?_
          refine J.iinc 4 (v := (1 : Int32)) (lv := [(4, .int (v4 + (1 : Int32))), (3, .int (v3 + (1 : Int32))), (0, jr G 29), (1, .int v1), (2, .int v2)]) d_L_writtenBy_39 rfl ki_1 (by decide) rfl ?_
          refine J.goto 5 d_L_writtenBy_42 rfl ?_
          exact J.sub (ls' := [(0, jr G 29), (1, .int v1), (2, .int v2), (3, .int (v3 + (1 : Int32))), (4, .int (v4 + (1 : Int32)))]) [2, 3, 4, 1, 0] rfl (ih (v3 + (1 : Int32)) (v4 + (1 : Int32)) m _ h)
theorem c_L_writtenBy {G : jG} (hG : jFul G) {v1 : Int32} {v2 : Int32} {m : jMem} {r : (Int32 × jMem)} (h : f_L_writtenBy v1 v2 m = some r) : jCt G Y_L_writtenBy [jr G 29, .int v1, .int v2] m (jri r) := by
  refine jCt.ov (ls := [(0, jr G 29), (1, .int v1), (2, .int v2)]) mi_L_writtenBy (jAvR (jAvI (jAvI jAvN))) (Nat.le_of_ble_eq_true rfl) ?_ ⟨rfl, rfl⟩
  unfold f_L_writtenBy at h
  refine J.iconst (v := (0 : Int32)) d_L_writtenBy_0 ki_0 ?_
  refine J.istore_n (lv := [(3, .int (0 : Int32)), (0, jr G 29), (1, .int v1), (2, .int v2)]) d_L_writtenBy_1 rfl (by decide) rfl ?_
  refine J.iconst (v := (0 : Int32)) d_L_writtenBy_2 ki_0 ?_
  refine J.istore (lv := [(4, .int (0 : Int32)), (3, .int (0 : Int32)), (0, jr G 29), (1, .int v1), (2, .int v2)]) d_L_writtenBy_3 (by decide) rfl ?_
  refine J.sub (ls' := [(0, jr G 29), (1, .int v1), (2, .int v2), (3, .int (0 : Int32)), (4, .int (0 : Int32))]) [2, 3, 4, 1, 0] rfl ?_
  refine jlp_L_writtenBy_5 hG v1 v2 _ ?_ _ (0 : Int32) (0 : Int32) m _ h
  intro w4 m3 r h
  refine J.iload_n 0 d_L_writtenBy_45 rfl rfl ?_
  cases h
  exact J.iret d_L_writtenBy_46 rfl (vp_nar_int _) rfl

def lp_L_hanging_5 (v1 : Int32) (v2 : Int32) (k56 : Int32 → jMem → Option (Int32 × jMem)) : Nat → Int32 → Int32 → jMem → Option (Int32 × jMem)
  | 0, _, _, _ => none
  | n + 1, v3, v4, m =>
    if (m 29 15) ≤ v4 then
      k56 v3 m
    else
      if v2 = 0 then
        jld 1 m 37 v4 fun x1 =>
        jbd (f_C_isIn x1 v1 m) fun x2 m3 =>
        if x2 = 0 then
          lp_L_hanging_5 v1 v2 k56 n v3 (v4 + (1 : Int32)) m3
        else
          jbd (f_C_bit v4 m3) fun x4 m5 =>
          lp_L_hanging_5 v1 v2 k56 n (v3 ||| x4) (v4 + (1 : Int32)) m5
      else
        jld 1 m 38 v4 fun x6 =>
        jbd (f_C_isIn x6 v1 m) fun x7 m8 =>
        if x7 = 0 then
          lp_L_hanging_5 v1 v2 k56 n v3 (v4 + (1 : Int32)) m8
        else
          jbd (f_C_bit v4 m8) fun x9 m10 =>
          lp_L_hanging_5 v1 v2 k56 n (v3 ||| x9) (v4 + (1 : Int32)) m10
def f_L_hanging (v1 : Int32) (v2 : Int32) (m : jMem) : Option (Int32 × jMem) :=
  lp_L_hanging_5 v1 v2 (fun w12 m11 =>
    some (w12, m11)) 5000 (0 : Int32) (0 : Int32) m
theorem jlp_L_hanging_5 {G : jG} (hG : jFul G) (v1 : Int32) (v2 : Int32) (k56 : Int32 → jMem → Option (Int32 × jMem))
    (hk56 : ∀ (v3 : Int32) (m : jMem) (r : (Int32 × jMem)), k56 v3 m = some r → J G Y_L_hanging 56 [(3, .int v3)] [] m (jri r)) : ∀ (n : Nat) (v3 : Int32) (v4 : Int32) (m : jMem) (r : (Int32 × jMem)), lp_L_hanging_5 v1 v2 k56 n v3 v4 m = some r → J G Y_L_hanging 5 [(0, jr G 29), (1, .int v1), (2, .int v2), (3, .int v3), (4, .int v4)] [] m (jri r) := by
  intro n
  induction n with
  | zero => intro v3 v4 m r h; unfold lp_L_hanging_5 at h; cases h
  | succ n ih =>
    intro v3 v4 m r h
    unfold lp_L_hanging_5 at h
    refine J.iload 4 d_L_hanging_5 rfl ?_
    refine J.aload_n 0 d_L_hanging_7 rfl rfl ?_
    refine J.getI hG d_L_hanging_8 fl_L_57 ck_29_15 ?_
    refine J.icmp_ge 56 d_L_hanging_11 rfl (fun c => ?_) (fun c => ?_)
    · rw [if_pos c] at h
      exact J.sub (ls' := [(3, .int v3)]) [3] rfl (hk56 v3 m _ h)
    · rw [if_neg c] at h
      refine J.iload_n 2 d_L_hanging_14 rfl rfl ?_
      refine J.if_eq 28 d_L_hanging_15 rfl (fun c => ?_) (fun c => ?_)
      · rw [if_pos c] at h
        refine J.aload_n 0 d_L_hanging_28 rfl rfl ?_
        refine J.getF (n := 37) hG d_L_hanging_29 fl_L_33 ck_29_7 rfl ?_
        refine J.iload 4 d_L_hanging_32 rfl ?_
        obtain ⟨x1, ex1, g, h⟩ := jld_some h
        refine J.il hG d_L_hanging_34 g ex1 ?_
        refine J.iload_n 1 d_L_hanging_35 rfl rfl ?_
        obtain ⟨x2, m3, zm3, h⟩ := jbd_some h
        refine J.cSi Y_C_isIn (As := [.int x1, .int v1]) (rest := []) d_L_hanging_36 mi_C_isIn ms_C_isIn lk_L_68 ⟨rfl, rfl, Nat.le_of_ble_eq_true rfl⟩ (c_C_isIn hG zm3) rfl (Nat.le_trans jcN (Nat.le_of_ble_eq_true rfl)) ?_
        refine J.if_eq 50 d_L_hanging_39 rfl (fun c => ?_) (fun c => ?_)
        · rw [if_pos c] at h
          refine J.iinc 4 (v := (1 : Int32)) (lv := [(4, .int (v4 + (1 : Int32))), (0, jr G 29), (1, .int v1), (2, .int v2), (3, .int v3)]) d_L_hanging_50 rfl ki_1 (by decide) rfl ?_
          refine J.goto 5 d_L_hanging_53 rfl ?_
          exact J.sub (ls' := [(0, jr G 29), (1, .int v1), (2, .int v2), (3, .int v3), (4, .int (v4 + (1 : Int32)))]) [1, 2, 3, 4, 0] rfl (ih v3 (v4 + (1 : Int32)) m3 _ h)
        · rw [if_neg c] at h
          refine J.iload_n 3 d_L_hanging_42 rfl rfl ?_
          refine J.nop (pc' := 43) rfl ?_
          refine J.iload 4 d_L_hanging_43 rfl ?_
          obtain ⟨x4, m5, zm5, h⟩ := jbd_some h
          refine J.cSi Y_C_bit (As := [.int v4]) (rest := [.int v3]) d_L_hanging_45 mi_C_bit ms_C_bit lk_L_72 ⟨rfl, rfl, Nat.le_of_ble_eq_true rfl⟩ (c_C_bit hG zm5) rfl (Nat.le_trans (jcI jcN) (Nat.le_of_ble_eq_true rfl)) ?_
          refine J.ior d_L_hanging_48 ?_
          refine J.istore_n (lv := [(3, .int (v3 ||| x4)), (0, jr G 29), (1, .int v1), (2, .int v2), (4, .int v4)]) d_L_hanging_49 rfl (by decide) rfl ?_
          refine J.iinc 4 (v := (1 : Int32)) (lv := [(4, .int (v4 + (1 : Int32))), (3, .int (v3 ||| x4)), (0, jr G 29), (1, .int v1), (2, .int v2)]) d_L_hanging_50 rfl ki_1 (by decide) rfl ?_
          refine J.goto 5 d_L_hanging_53 rfl ?_
          exact J.sub (ls' := [(0, jr G 29), (1, .int v1), (2, .int v2), (3, .int (v3 ||| x4)), (4, .int (v4 + (1 : Int32)))]) [2, 3, 4, 1, 0] rfl (ih (v3 ||| x4) (v4 + (1 : Int32)) m5 _ h)
      · rw [if_neg c] at h
        refine J.aload_n 0 d_L_hanging_18 rfl rfl ?_
        refine J.getF (n := 38) hG d_L_hanging_19 fl_L_36 ck_29_8 rfl ?_
        refine J.nop (pc' := 22) rfl ?_
        refine J.iload 4 d_L_hanging_22 rfl ?_
        obtain ⟨x6, ex6, g, h⟩ := jld_some h
        refine J.il hG d_L_hanging_24 g ex6 ?_
        refine J.goto 35 d_L_hanging_25 rfl ?_
        refine J.iload_n 1 d_L_hanging_35 rfl rfl ?_
        obtain ⟨x7, m8, zm8, h⟩ := jbd_some h
        refine J.cSi Y_C_isIn (As := [.int x6, .int v1]) (rest := []) d_L_hanging_36 mi_C_isIn ms_C_isIn lk_L_68 ⟨rfl, rfl, Nat.le_of_ble_eq_true rfl⟩ (c_C_isIn hG zm8) rfl (Nat.le_trans jcN (Nat.le_of_ble_eq_true rfl)) ?_
        refine J.if_eq 50 d_L_hanging_39 rfl (fun c => ?_) (fun c => ?_)
        · rw [if_pos c] at h
          refine J.iinc 4 (v := (1 : Int32)) (lv := [(4, .int (v4 + (1 : Int32))), (0, jr G 29), (1, .int v1), (2, .int v2), (3, .int v3)]) d_L_hanging_50 rfl ki_1 (by decide) rfl ?_
          refine J.goto 5 d_L_hanging_53 rfl ?_
          exact J.sub (ls' := [(0, jr G 29), (1, .int v1), (2, .int v2), (3, .int v3), (4, .int (v4 + (1 : Int32)))]) [1, 2, 3, 4, 0] rfl (ih v3 (v4 + (1 : Int32)) m8 _ h)
        · rw [if_neg c] at h
          refine J.iload_n 3 d_L_hanging_42 rfl rfl ?_
          refine J.iload 4 d_L_hanging_43 rfl ?_
          obtain ⟨x9, m10, zm10, h⟩ := jbd_some h
          refine J.cSi Y_C_bit (As := [.int v4]) (rest := [.int v3]) d_L_hanging_45 mi_C_bit ms_C_bit lk_L_72 ⟨rfl, rfl, Nat.le_of_ble_eq_true rfl⟩ (c_C_bit hG zm10) rfl (Nat.le_trans (jcI jcN) (Nat.le_of_ble_eq_true rfl)) ?_
          refine J.ior d_L_hanging_48 ?_
          refine J.istore_n (lv := [(3, .int (v3 ||| x9)), (0, jr G 29), (1, .int v1), (2, .int v2), (4, .int v4)]) d_L_hanging_49 rfl (by decide) rfl ?_
          refine J.nop (pc' := 50) rfl ?_
          refine J.iinc 4 (v := (1 : Int32)) (lv := [(4, .int (v4 + (1 : Int32))), (3, .int (v3 ||| x9)), (0, jr G 29), (1, .int v1), (2, .int v2)]) d_L_hanging_50 rfl ki_1 (by decide) rfl ?_
          refine J.goto 5 d_L_hanging_53 rfl ?_
          exact J.sub (ls' := [(0, jr G 29), (1, .int v1), (2, .int v2), (3, .int (v3 ||| x9)), (4, .int (v4 + (1 : Int32)))]) [2, 3, 4, 1, 0] rfl (ih (v3 ||| x9) (v4 + (1 : Int32)) m10 _ h)
theorem c_L_hanging {G : jG} (hG : jFul G) {v1 : Int32} {v2 : Int32} {m : jMem} {r : (Int32 × jMem)} (h : f_L_hanging v1 v2 m = some r) : jCt G Y_L_hanging [jr G 29, .int v1, .int v2] m (jri r) := by
  refine jCt.ov (ls := [(0, jr G 29), (1, .int v1), (2, .int v2)]) mi_L_hanging (jAvR (jAvI (jAvI jAvN))) (Nat.le_of_ble_eq_true rfl) ?_ ⟨rfl, rfl⟩
  unfold f_L_hanging at h
  refine J.iconst (v := (0 : Int32)) d_L_hanging_0 ki_0 ?_
  refine J.istore_n (lv := [(3, .int (0 : Int32)), (0, jr G 29), (1, .int v1), (2, .int v2)]) d_L_hanging_1 rfl (by decide) rfl ?_
  refine J.iconst (v := (0 : Int32)) d_L_hanging_2 ki_0 ?_
  refine J.istore (lv := [(4, .int (0 : Int32)), (3, .int (0 : Int32)), (0, jr G 29), (1, .int v1), (2, .int v2)]) d_L_hanging_3 (by decide) rfl ?_
  refine J.sub (ls' := [(0, jr G 29), (1, .int v1), (2, .int v2), (3, .int (0 : Int32)), (4, .int (0 : Int32))]) [2, 3, 4, 1, 0] rfl ?_
  refine jlp_L_hanging_5 hG v1 v2 _ ?_ _ (0 : Int32) (0 : Int32) m _ h
  intro w12 m11 r h
  refine J.iload_n 0 d_L_hanging_56 rfl rfl ?_
  cases h
  exact J.iret d_L_hanging_57 rfl (vp_nar_int _) rfl

def lp_L_isTakenBack_2 (v1 : Int32) (k30 : jMem → Option (Int32 × jMem)) (k38 : jMem → Option (Int32 × jMem)) : Nat → Int32 → jMem → Option (Int32 × jMem)
  | 0, _, _ => none
  | n + 1, v2, m =>
    if (m 29 15) ≤ v2 then
      k38 m
    else
      jld 1 m 32 v2 fun x1 =>
      if x1 = (2 : Int32) then
        jld 1 m 34 v2 fun x2 =>
        if x2 = v1 then
          k30 m
        else
          lp_L_isTakenBack_2 v1 k30 k38 n (v2 + (1 : Int32)) m
      else
        lp_L_isTakenBack_2 v1 k30 k38 n (v2 + (1 : Int32)) m
def f_L_isTakenBack (v1 : Int32) (m : jMem) : Option (Int32 × jMem) :=
  lp_L_isTakenBack_2 v1 (fun m3 =>
    some ((1 : Int32), m3)) (fun m4 =>
    some ((0 : Int32), m4)) 5000 (0 : Int32) m
theorem jlp_L_isTakenBack_2 {G : jG} (hG : jFul G) (v1 : Int32) (k30 : jMem → Option (Int32 × jMem)) (k38 : jMem → Option (Int32 × jMem))
    (hk30 : ∀ (m : jMem) (r : (Int32 × jMem)), k30 m = some r → J G Y_L_isTakenBack 30 [] [] m (jri r))
    (hk38 : ∀ (m : jMem) (r : (Int32 × jMem)), k38 m = some r → J G Y_L_isTakenBack 38 [] [] m (jri r)) : ∀ (n : Nat) (v2 : Int32) (m : jMem) (r : (Int32 × jMem)), lp_L_isTakenBack_2 v1 k30 k38 n v2 m = some r → J G Y_L_isTakenBack 2 [(0, jr G 29), (1, .int v1), (2, .int v2)] [] m (jri r) := by
  intro n
  induction n with
  | zero => intro v2 m r h; unfold lp_L_isTakenBack_2 at h; cases h
  | succ n ih =>
    intro v2 m r h
    unfold lp_L_isTakenBack_2 at h
    refine J.iload_n 2 d_L_isTakenBack_2 rfl rfl ?_
    refine J.aload_n 0 d_L_isTakenBack_3 rfl rfl ?_
    refine J.getI hG d_L_isTakenBack_4 fl_L_57 ck_29_15 ?_
    refine J.icmp_ge 38 d_L_isTakenBack_7 rfl (fun c => ?_) (fun c => ?_)
    · rw [if_pos c] at h
      exact J.sub (ls' := []) [] rfl (hk38  m _ h)
    · rw [if_neg c] at h
      refine J.aload_n 0 d_L_isTakenBack_10 rfl rfl ?_
      refine J.getF (n := 32) hG d_L_isTakenBack_11 fl_L_18 ck_29_2 rfl ?_
      refine J.iload_n 2 d_L_isTakenBack_14 rfl rfl ?_
      obtain ⟨x1, ex1, g, h⟩ := jld_some h
      refine J.il hG d_L_isTakenBack_15 g ex1 ?_
      refine J.nop (pc' := 16) rfl ?_
      refine J.iconst (v := (2 : Int32)) d_L_isTakenBack_16 ki_2 ?_
      refine J.icmp_ne 32 d_L_isTakenBack_17 rfl (fun c => ?_) (fun c => ?_)
      · rw [if_neg c] at h
        refine J.iinc 2 (v := (1 : Int32)) (lv := [(2, .int (v2 + (1 : Int32))), (0, jr G 29), (1, .int v1)]) d_L_isTakenBack_32 rfl ki_1 (by decide) rfl ?_
        refine J.goto 2 d_L_isTakenBack_35 rfl ?_
        exact J.sub (ls' := [(0, jr G 29), (1, .int v1), (2, .int (v2 + (1 : Int32)))]) [1, 2, 0] rfl (ih (v2 + (1 : Int32)) m _ h)
      · rw [if_pos c] at h
        refine J.aload_n 0 d_L_isTakenBack_20 rfl rfl ?_
        refine J.getF (n := 34) hG d_L_isTakenBack_21 fl_L_24 ck_29_4 rfl ?_
        refine J.iload_n 2 d_L_isTakenBack_24 rfl rfl ?_
        obtain ⟨x2, ex2, g, h⟩ := jld_some h
        refine J.il hG d_L_isTakenBack_25 g ex2 ?_
        refine J.iload_n 1 d_L_isTakenBack_26 rfl rfl ?_
        refine J.icmp_ne 32 d_L_isTakenBack_27 rfl (fun c => ?_) (fun c => ?_)
        · rw [if_neg c] at h
          refine J.iinc 2 (v := (1 : Int32)) (lv := [(2, .int (v2 + (1 : Int32))), (0, jr G 29), (1, .int v1)]) d_L_isTakenBack_32 rfl ki_1 (by decide) rfl ?_
          refine J.goto 2 d_L_isTakenBack_35 rfl ?_
          exact J.sub (ls' := [(0, jr G 29), (1, .int v1), (2, .int (v2 + (1 : Int32)))]) [1, 2, 0] rfl (ih (v2 + (1 : Int32)) m _ h)
        · rw [if_pos c] at h
          exact J.sub (ls' := []) [] rfl (hk30  m _ h)
theorem c_L_isTakenBack {G : jG} (hG : jFul G) {v1 : Int32} {m : jMem} {r : (Int32 × jMem)} (h : f_L_isTakenBack v1 m = some r) : jCt G Y_L_isTakenBack [jr G 29, .int v1] m (jri r) := by
  refine jCt.ov (ls := [(0, jr G 29), (1, .int v1)]) mi_L_isTakenBack (jAvR (jAvI jAvN)) (Nat.le_of_ble_eq_true rfl) ?_ ⟨rfl, rfl⟩
  unfold f_L_isTakenBack at h
  refine J.iconst (v := (0 : Int32)) d_L_isTakenBack_0 ki_0 ?_
  refine J.istore_n (lv := [(2, .int (0 : Int32)), (0, jr G 29), (1, .int v1)]) d_L_isTakenBack_1 rfl (by decide) rfl ?_
  refine J.sub (ls' := [(0, jr G 29), (1, .int v1), (2, .int (0 : Int32))]) [1, 2, 0] rfl ?_
  refine jlp_L_isTakenBack_2 hG v1 _ _ ?_ ?_ _ (0 : Int32) m _ h
  · intro m3 r h
    refine J.iconst (v := (1 : Int32)) d_L_isTakenBack_30 ki_1 ?_
    cases h
    exact J.iret d_L_isTakenBack_31 rfl rfl rfl
  · intro m4 r h
    refine J.iconst (v := (0 : Int32)) d_L_isTakenBack_38 ki_0 ?_
    cases h
    exact J.iret d_L_isTakenBack_39 rfl rfl rfl
